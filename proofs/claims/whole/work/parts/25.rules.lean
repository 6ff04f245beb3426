/-! NUMBERS with signs; the greatest common divisor; whether a product fits -/
abbrev iI (z : Int) : Int32 := Int32.ofInt z
abbrev lI (z : Int) : Int64 := Int64.ofInt z
theorem nI_iI (n : Nat) : nI n = iI (n : Int) := Int32.ofInt_eq_ofNat.symm
theorem lN_lI (n : Nat) : lN n = lI (n : Int) := Int64.ofInt_eq_ofNat.symm
theorem iI_add (a b : Int) : iI a + iI b = iI (a + b) := (Int32.ofInt_add a b).symm
theorem iI_sub (a b : Int) : iI a - iI b = iI (a - b) := (Int32.ofInt_sub a b).symm
theorem iI_mul (a b : Int) : iI a * iI b = iI (a * b) := (Int32.ofInt_mul a b).symm
theorem lI_add (a b : Int) : lI a + lI b = lI (a + b) := (Int64.ofInt_add a b).symm
theorem lI_mul (a b : Int) : lI a * lI b = lI (a * b) := (Int64.ofInt_mul a b).symm
theorem iI_toInt {z : Int} (h : -2147483648 ≤ z) (h2 : z < 2147483648) : (iI z).toInt = z := Int32.toInt_ofInt_of_le (by omega) (by omega)
theorem lI_toInt {z : Int} (h : -9223372036854775808 ≤ z) (h2 : z < 9223372036854775808) : (lI z).toInt = z := Int64.toInt_ofInt_of_le (by omega) (by omega)
theorem iI_l {z : Int} (h : -2147483648 ≤ z) (h2 : z < 2147483648) : (iI z).toInt64 = lI z := Int32.toInt64_ofInt (by rw [show Int32.minValue.toInt = -2147483648 by decide]; exact h) (by rw [show Int32.maxValue.toInt = 2147483647 by decide]; omega)
theorem sp_divisor (x : Int64) {b : Nat} (hx : -9223372036854775808 < x.toInt) (hb : b < 2 ^ 31) (h : AH) : XX true 1 192 0 [.long (x), ax_junk, .long (lN b), ax_junk, ax_junk, ax_junk, ax_junk, ax_junk, ax_junk, ax_junk] [] (h) (some (.long (lN (Nat.gcd x.toInt.natAbs b))), h) := by
  have x1 := Int64.toInt_lt x
  have lp : ∀ k B, B ≤ k → B < 2 ^ 31 → ∀ A, A < 2 ^ 63 → XX true 1 192 17 [ax_junk, ax_junk, ax_junk, ax_junk, .long (lN A), ax_junk, .long (lN B), ax_junk, ax_junk, ax_junk] [] (h) ((some (.long (lN (Nat.gcd A B))), h)) := by
    intro k
    induction k with
    | zero =>
      intro B hB _ A hA
      obtain rfl : B = 0 := by omega
      refine wb_X12_divisor_17 ?_
      rw [if_pos ((lg_eq0 _ _).mpr rfl), Nat.gcd_zero_right]
    | succ k ih =>
      intro B hB hB2 A hA
      refine wb_X12_divisor_17 ?_
      by_cases q : B = 0
      · subst q
        rw [if_pos ((lg_eq0 _ _).mpr rfl), Nat.gcd_zero_right]
      · have nz : ¬ lN B = lN 0 := fun z => q ((pk_lEQ (by omega) (by omega)).mp z)
        rw [if_neg (fun z => nz ((lg_eq0 _ _).mp z))]
        refine ⟨by simp only [Bool.not_eq_true', decide_eq_false_iff_not]; exact nz, ?_⟩
        rw [pk_lRem hA (by omega) (by omega)]
        have lt : A % B < B := Nat.mod_lt _ (by omega)
        have e : Nat.gcd A B = Nat.gcd B (A % B) := by rw [Nat.gcd_comm A B, Nat.gcd_rec, Nat.gcd_comm]
        rw [e]
        exact wk_X12_divisor_17 (ih (A % B) (by omega) (by omega) B (by omega))
  have go : ∀ A, A < 2 ^ 63 → A = x.toInt.natAbs → XX true 1 192 12 [ax_junk, ax_junk, .long (lN b), ax_junk, ax_junk, ax_junk, ax_junk, ax_junk, ax_junk, ax_junk] [.long (lN A)] (h) ((some (.long (lN (Nat.gcd x.toInt.natAbs b))), h)) := by
    intro A hA e
    rw [← e]
    refine wb_X12_divisor_12 ?_
    exact wk_X12_divisor_17 (lp b b (Nat.le_refl _) hb A hA)
  refine wb_X12_divisor_0 ?_
  by_cases q : x < lN 0
  · rw [if_pos ((lg_lt0 _ _).mpr q)]
    have q1 : x.toInt < 0 := by
      have := Int64.lt_iff_toInt_lt.mp q
      rw [pk_lT (by decide)] at this
      exact this
    have e : -x = lN x.toInt.natAbs := by
      apply Int64.toInt_inj.mp
      rw [Int64.toInt_neg, pk_lT (by omega), Int.bmod_eq_of_le (by omega) (by omega)]
      omega
    rw [e]
    exact wk_X12_divisor_12 (go _ (by omega) rfl)
  · rw [if_neg (fun z => q ((lg_lt0 _ _).mp z))]
    obtain ⟨k, hk, rfl⟩ := pk_lOf (x := x) q
    exact wk_X12_divisor_12 (go k hk (by rw [pk_lT hk]; omega))
abbrev v_fit (a : Int64) (s : Nat) : Prop := -9223372036854775808 ≤ a.toInt * s ∧ a.toInt * s < 9223372036854775808
theorem v_fit_iff (a : Int64) {s : Nat} (h0 : 0 < s) (hs : s < 2 ^ 63) : (a * lN s) / lN s = a ↔ v_fit a s := by
  have hT : (lN s).toInt = s := pk_lT hs
  have ne : lN s ≠ -1 := by
    intro z
    have := congrArg Int64.toInt z
    rw [hT, show (-1 : Int64).toInt = -1 by decide] at this
    omega
  rw [← Int64.toInt_inj, Int64.toInt_div_of_ne_right _ _ ne, Int64.toInt_mul, hT]
  unfold v_fit
  generalize a.toInt = A
  have b1 := Int.emod_add_mul_ediv (A * s + 9223372036854775808) 18446744073709551616
  constructor
  · intro q
    have h1 : -9223372036854775808 ≤ (A * s).bmod (2 ^ 64) ∧ (A * s).bmod (2 ^ 64) < 9223372036854775808 := ⟨Int.le_bmod (by decide), Int.bmod_lt (by decide)⟩
    obtain ⟨k, hk⟩ : ∃ k : Int, (A * s).bmod (2 ^ 64) = A * s + 18446744073709551616 * k := by
      obtain ⟨k, hk⟩ := Int.dvd_bmod_sub_self (x := A * s) (m := 2 ^ 64)
      exact ⟨k, by omega⟩
    generalize (A * s).bmod (2 ^ 64) = M at q h1 hk
    have h2 := Int.tmod_add_mul_tdiv M s
    rw [q] at h2
    have h3 : -(s : Int) < M.tmod s ∧ M.tmod s < s := by
      constructor
      · have := Int.lt_tmod_of_pos M (b := (s : Int)) (by omega)
        omega
      · exact Int.tmod_lt_of_pos M (by omega)
    have h4 : (s : Int) * A = A * s := Int.mul_comm _ _
    rw [h4] at h2
    omega
  · intro q
    rw [Int.bmod_eq_of_le (by omega) (by omega)]
    exact Int.mul_tdiv_cancel A (by omega)
theorem sp_fits (a : Int64) {s : Nat} (h0 : 0 < s) (hs : s < 2 ^ 63) (h : AH) : XX true 1 211 0 [.long (a), ax_junk, .long (lN s), ax_junk, ax_junk, ax_junk] [] (h) (some (.int (b2i (v_fit a s))), h) := by
  have hT : (lN s).toInt = s := pk_lT hs
  have y : v_fit a s → XX true 1 211 58 [ax_junk, ax_junk, ax_junk, ax_junk, ax_junk, ax_junk] [] (h) ((some (.int (b2i (v_fit a s))), h)) := by
    intro z
    rw [b2i_t z]
    refine wb_X12_fits_58 ?_
    rfl
  have z0 : ¬ lN s = lN 0 := fun z => by have := (pk_lEQ hs (by omega)).mp z; omega
  have z1 : ¬ lN s = -lN 9223372036854775808 := by
    intro z
    have := congrArg Int64.toInt z
    rw [hT, show (-lN 9223372036854775808).toInt = -9223372036854775808 by decide] at this
    omega
  have z2 : ¬ lN s = -lN 1 := by
    intro z
    have := congrArg Int64.toInt z
    rw [hT, show (-lN 1).toInt = -1 by decide] at this
    omega
  refine wb_X12_fits_0 ?_
  by_cases q : a = lN 0
  · rw [if_pos ((lg_eq0 _ _).mpr q)]
    refine wk_X12_fits_58 (y ?_)
    unfold v_fit
    rw [q, show (lN 0).toInt = 0 by decide, Int.zero_mul]
    decide
  · rw [if_neg (fun z => q ((lg_eq0 _ _).mp z)), if_neg (fun z => z0 ((lg_eq0 _ _).mp z))]
    refine ⟨by simp only [Bool.not_eq_true', decide_eq_false_iff_not]; exact z0, ?_⟩
    by_cases r : v_fit a s
    · rw [if_pos ((lg_eq0 _ _).mpr ((v_fit_iff a h0 hs).mpr r))]
      have k42 : XX true 1 211 42 [.long (a), ax_junk, .long (lN s), ax_junk, ax_junk, ax_junk] [] (h) ((some (.int (b2i (v_fit a s))), h)) := by
        refine wb_X12_fits_42 ?_
        rw [if_neg (fun z => z1 ((lg_eq0 _ _).mp z))]
        exact wk_X12_fits_58 (y r)
      by_cases m : lg_cmp a (-lN 9223372036854775808) = nI 0
      · rw [if_pos m, if_neg (fun z => z2 ((lg_eq0 _ _).mp z))]
        exact wk_X12_fits_42 k42
      · rw [if_neg m]
        exact wk_X12_fits_42 k42
    · rw [if_neg (fun z => r ((v_fit_iff a h0 hs).mp ((lg_eq0 _ _).mp z))), b2i_f r]
/-! RULES: tests, amounts, pay -/
/-- whether a rule's test is so -/
def v_so (U : Nat → Nat → Nat) (n : Nat) (e : Nat → Nat) : Nat → Nat → Bool
  | 0, _ => false
  | f + 1, i => if U i 0 = 0 then true else if U i 0 = 1 then decide (U i 1 < n ∧ U i 2 < n ∧ e (U i 1) = e (U i 2)) else if U i 0 = 2 then decide (U i 1 < n ∧ U i 2 < n ∧ e (U i 2) < e (U i 1)) else if U i 0 = 3 then decide (U i 1 < n ∧ U i 2 < n ∧ (e (U i 1) + e (U i 2)) % 2 = 0) else decide (U i 1 < i) && !(v_so U n e f (U i 1))
/-- a rule's amount -/
def v_am (U : Nat → Nat → Nat) (V W : Nat → Int) (c n : Nat) (e : Nat → Nat) : Nat → Nat → Int
  | 0, _ => 0
  | f + 1, i => if U i 5 = 0 then V i else if U i 5 = 1 then (if U i 1 < n ∧ e (U i 1) < c then V i * W (e (U i 1)) else 0) else if U i 5 = 2 then (if U i 1 < n ∧ U i 2 < n then V i * ((e (U i 1) : Int) - e (U i 2)) else 0) else if U i 5 = 3 then (if U i 1 < i then v_am U V W c n e f (U i 1) + V i else 0) else (if U i 1 < n then (if e (U i 1) = 0 then 2 * V i else V i) else 0)
/-- rules as they can be -/
def okR (nr : Nat) (U : Nat → Nat → Nat) (V : Nat → Int) : Prop := nr ≤ 8 ∧ ∀ i, i < nr → U i 0 < 5 ∧ U i 1 < 8 ∧ U i 2 < 8 ∧ U i 3 < 3 ∧ U i 4 < 3 ∧ U i 3 ≠ U i 4 ∧ U i 5 < 5 ∧ -99 ≤ V i ∧ V i ≤ 99
/-- a row of rules lies there -/
def rwR (a fm nr : Nat) (U : Nat → Nat → Nat) (V : Nat → Int) (h : AH) : Prop := okR nr U V ∧ ∀ i, i < nr → (∀ f, f < 6 → hI h a (fm + 7 * i + f) = nI (U i f)) ∧ hI h a (fm + 7 * i + 6) = iI (V i)
def mR (nr : Nat) (U : Nat → Nat → Nat) (V : Nat → Int) (h : AH) : Prop := hI h 153 8 = nI nr ∧ rwR 159 0 nr U V h
def mW (W : Nat → Int) (h : AH) : Prop := ∀ i, i < 5 → hI h 154 i = iI (W i) ∧ -9 ≤ W i ∧ W i ≤ 9
theorem rwR.fr {a fm nr : Nat} {U : Nat → Nat → Nat} {V : Nat → Int} {h h' : AH} (s : rwR a fm nr U V h) {L : List (Nat × Option Nat)} (f : fr L h h') (q : ∀ j, inS L a j = false) : rwR a fm nr U V h' := ⟨s.1, fun i hi => ⟨fun k hk => (f.I (q _)).trans ((s.2 i hi).1 k hk), (f.I (q _)).trans (s.2 i hi).2⟩⟩
theorem mR.fr {nr : Nat} {U : Nat → Nat → Nat} {V : Nat → Int} {h h' : AH} (s : mR nr U V h) {L : List (Nat × Option Nat)} (f : fr L h h') (q : ∀ j, inS L 159 j = false) (q2 : inS L 153 8 = false) : mR nr U V h' := ⟨(f.I q2).trans s.1, s.2.fr f q⟩
theorem mW.fr {W : Nat → Int} {h h' : AH} (s : mW W h) {L : List (Nat × Option Nat)} (f : fr L h h') (q : ∀ j, inS L 154 j = false) : mW W h' := fun i hi => ⟨(f.I (q _)).trans (s i hi).1, (s i hi).2⟩
theorem mul_bd {a b : Int} {A B : Nat} (ha : -(A : Int) ≤ a ∧ a ≤ A) (hb : -(B : Int) ≤ b ∧ b ≤ B) : -((A * B : Nat) : Int) ≤ a * b ∧ a * b ≤ ((A * B : Nat) : Int) := by
  have h1 : (a * b).natAbs ≤ A * B := by
    rw [Int.natAbs_mul]
    exact Nat.mul_le_mul (by omega) (by omega)
  omega
section S25
variable {c n np nr : Nat} {K P B T C : Nat → Nat} {U : Nat → Nat → Nat} {V W : Nat → Int} {h h' : AH}
theorem v_am_le {e : Nat → Nat} (r : okR nr U V) (w : ∀ i, i < 5 → -9 ≤ W i ∧ W i ≤ 9) (he : ∀ i, i < n → e i < 5) (hc : c ≤ 5) : ∀ (f i : Nat), i < nr → -(891 + 99 * f : Int) ≤ v_am U V W c n e f i ∧ v_am U V W c n e f i ≤ 891 + 99 * f
  | 0, i, _ => by show -(891 + 99 * ((0 : Nat) : Int)) ≤ 0 ∧ 0 ≤ 891 + 99 * ((0 : Nat) : Int); omega
  | f + 1, i, hi => by
    obtain ⟨a0, a1, a2, a3, a4, a5, a6, v1, v2⟩ := r.2 i hi
    unfold v_am
    split
    · omega
    · split
      · split
        · rename_i q
          have w1 := w (e (U i 1)) (by omega)
          have := mul_bd (a := V i) (b := W (e (U i 1))) (A := 99) (B := 9) (by omega) (by omega)
          omega
        · omega
      · split
        · split
          · rename_i q
            have e1 := he _ q.1
            have e2 := he _ q.2
            have := mul_bd (a := V i) (b := (e (U i 1) : Int) - e (U i 2)) (A := 99) (B := 4) (by omega) (by omega)
            omega
          · omega
        · split
          · split
            · rename_i q
              have ih := v_am_le r w he hc f (U i 1) (by omega)
              omega
            · omega
          · split
            · split <;> omega
            · omega
theorem sp_isStageN (s : mS c n K P B h) {x : Nat} (hx : x < 2 ^ 31) : XX true 2 167 0 [.ref 153, .int (nI x)] [] (h) (some (.int (b2i (x < n))), h) := by
  have h6 := s.n6
  have g := sp_isStage s (nI x)
  rw [b2i_cong (show (nI 0 ≤ nI x ∧ nI x < nI n) ↔ x < n from ⟨fun z => (nI_ltI hx (by omega)).mp z.2, fun z => ⟨nI_le (Nat.zero_le _) hx, (nI_ltI hx (by omega)).mpr z⟩⟩)] at g
  exact g
theorem sp_isSo_s (s : mS c n K P B h) (r : rwR 159 0 nr U V h) {e : Nat → Nat} (o : okO h n e) (he : ∀ i, i < n → e i < 5) {f i : Nat} (hi : i < nr) (ih : ∀ x, x < i → XX true (f+3) 206 0 [.ref 153, .int (nI x), ax_junk, ax_junk, ax_junk] [] (h) (some (.int (b2i (v_so U n e f x = true))), h)) : XX true (f+4) 206 0 [.ref 153, .int (nI i), ax_junk, ax_junk, ax_junk] [] (h) (some (.int (b2i (v_so U n e (f + 1) i = true))), h) := by
  have h6 := s.n6
  have h8 := r.1.1
  obtain ⟨a0, a1, a2, a3, a4, a5, a6, v1, v2⟩ := r.1.2 i hi
  obtain ⟨cl, cv⟩ := r.2 i hi
  have c0 : hI h 159 (7 * i) = nI (U i 0) := by have := cl 0 (by decide); rwa [Nat.zero_add, Nat.add_zero] at this
  have c1 : hI h 159 (7 * i + 1) = nI (U i 1) := by have := cl 1 (by decide); rwa [Nat.zero_add] at this
  have c2 : hI h 159 (7 * i + 2) = nI (U i 2) := by have := cl 2 (by decide); rwa [Nat.zero_add] at this
  have y : ∀ {Q : Prop} [Decidable Q], Q → XX true (f+4) 206 88 [ax_junk, ax_junk, ax_junk, ax_junk, ax_junk] [] (h) ((some (.int (b2i Q)), h)) := by
    intro Q _ q
    refine wb_X12_isSo_88 ?_
    rw [b2i_t q]
  -- the two stages, and the switch
  have sw : XX true (f+4) 206 45 [.ref 153, .int (nI i), .int (nI (U i 1)), .int (nI (U i 2)), ax_junk] [.int (b2i (U i 1 < n ∧ U i 2 < n))] (h) ((some (.int (b2i (v_so U n e (f + 1) i = true))), h)) := by
    refine wb_X12_isSo_45 ?_
    rw [nI_mulI, ix_nI (by omega), c0]
    refine ⟨in_nI (by omega) (by decide), ?_⟩
    unfold v_so
    by_cases k0 : U i 0 = 0
    · rw [if_pos k0]
      refine (sw_X12_isSo_56_0 (congrArg nI k0)).mpr ?_
      exact wk_X12_isSo_88 (y rfl)
    · rw [if_neg k0]
      by_cases k1 : U i 0 = 1
      · rw [if_pos k1]
        refine (sw_X12_isSo_56_1 (congrArg nI k1)).mpr ?_
        refine wb_X12_isSo_90 ?_
        by_cases st : U i 1 < n ∧ U i 2 < n
        · rw [b2i_t st, if_neg (by decide)]
          refine ⟨in_nI (by omega) (by decide), in_nI (by omega) (by decide), ?_⟩
          have e1 := he _ st.1
          have e2 := he _ st.2
          rw [ix_nI (by omega), ix_nI (by omega), o _ st.1, o _ st.2]
          by_cases q : e (U i 1) = e (U i 2)
          · rw [if_pos (congrArg nI q), b2i_t (decide_eq_true ⟨st.1, st.2, q⟩)]
          · rw [if_neg (fun z => q ((nI_eq (by omega) (by omega)).mp z)), b2i_f (fun z => q (of_decide_eq_true z).2.2)]
        · rw [b2i_f st, if_pos rfl, b2i_f (fun z => st ⟨(of_decide_eq_true z).1, (of_decide_eq_true z).2.1⟩)]
      · rw [if_neg k1]
        by_cases k2 : U i 0 = 2
        · rw [if_pos k2]
          refine (sw_X12_isSo_56_2 (congrArg nI k2)).mpr ?_
          refine wb_X12_isSo_116 ?_
          by_cases st : U i 1 < n ∧ U i 2 < n
          · rw [b2i_t st, if_neg (by decide)]
            refine ⟨in_nI (by omega) (by decide), in_nI (by omega) (by decide), ?_⟩
            have e1 := he _ st.1
            have e2 := he _ st.2
            rw [ix_nI (by omega), ix_nI (by omega), o _ st.1, o _ st.2]
            by_cases q : e (U i 1) ≤ e (U i 2)
            · rw [if_pos (nI_le q (by omega)), b2i_f (fun z => by have := (of_decide_eq_true z).2.2; omega)]
            · rw [if_neg (fun z => q ((nI_leI (by omega) (by omega)).mp z)), b2i_t (decide_eq_true ⟨st.1, st.2, by omega⟩)]
          · rw [b2i_f st, if_pos rfl, b2i_f (fun z => st ⟨(of_decide_eq_true z).1, (of_decide_eq_true z).2.1⟩)]
        · rw [if_neg k2]
          by_cases k3 : U i 0 = 3
          · rw [if_pos k3]
            refine (sw_X12_isSo_56_3 (congrArg nI k3)).mpr ?_
            refine wb_X12_isSo_142 ?_
            by_cases st : U i 1 < n ∧ U i 2 < n
            · rw [b2i_t st, if_neg (by decide)]
              refine ⟨in_nI (by omega) (by decide), in_nI (by omega) (by decide), by decide, ?_⟩
              have e1 := he _ st.1
              have e2 := he _ st.2
              rw [ix_nI (by omega), ix_nI (by omega), o _ st.1, o _ st.2, nI_add, nI_divI (by omega) (by omega), nI_mulI, nI_remI]
              by_cases q : (e (U i 1) + e (U i 2)) % 2 = 0
              · rw [if_pos (congrArg nI q), b2i_t (decide_eq_true ⟨st.1, st.2, q⟩)]
              · rw [if_neg (fun z => q ((nI_eq (by omega) (by omega)).mp z)), b2i_f (fun z => q (of_decide_eq_true z).2.2)]
            · rw [b2i_f st, if_pos rfl, b2i_f (fun z => st ⟨(of_decide_eq_true z).1, (of_decide_eq_true z).2.1⟩)]
          · rw [if_neg k3]
            refine (sw_X12_isSo_56_d (Or.inr (by rw [nI_toInt (by omega)]; omega))).mpr ?_
            refine wb_X12_isSo_171 ?_
            by_cases q : U i 1 < i
            · rw [if_pos (nI_lt q (by omega))]
              refine (cl_X12_isSo_178 rfl (by omega) (ih _ q)).mpr ?_
              refine wb_X12_isSo_181 ?_
              rw [decide_eq_true q, Bool.true_and]
              by_cases z : v_so U n e f (U i 1) = true
              · rw [b2i_t z, if_neg (by decide), z, b2i_f (by decide)]
              · rw [b2i_f z, if_pos rfl, Bool.eq_false_iff.mpr z, b2i_t (by decide)]
            · rw [if_neg (nI_nlt (by omega) (by omega)), decide_eq_false q, Bool.false_and, b2i_f (by decide)]
  have no : ¬ (U i 1 < n ∧ U i 2 < n) → XX true (f+4) 206 44 [.ref 153, .int (nI i), .int (nI (U i 1)), .int (nI (U i 2)), ax_junk] [] (h) ((some (.int (b2i (v_so U n e (f + 1) i = true))), h)) := by
    intro q
    rw [b2i_f q] at sw
    refine wb_X12_isSo_44 ?_
    exact sw
  refine wb_X12_isSo_0 ?_
  rw [nI_mulI, nI_add, nI_add, ix_nI (by omega), ix_nI (by omega), c1, c2]
  refine ⟨in_nI (by omega) (by decide), in_nI (by omega) (by decide), ?_⟩
  refine (cl_X12_isSo_26 rfl (by omega) (sp_isStageN s (by omega))).mpr ?_
  refine wb_X12_isSo_29 ?_
  by_cases q1 : U i 1 < n
  · rw [b2i_t q1, if_neg (by decide)]
    refine (cl_X12_isSo_34 rfl (by omega) (sp_isStageN s (by omega))).mpr ?_
    refine wb_X12_isSo_37 ?_
    by_cases q2 : U i 2 < n
    · rw [b2i_t q2, if_neg (by decide)]
      rw [b2i_t ⟨q1, q2⟩] at sw
      exact sw
    · rw [b2i_f q2, if_pos rfl]
      exact wk_X12_isSo_44 (no (fun z => q2 z.2))
  · rw [b2i_f q1, if_pos rfl]
    exact wk_X12_isSo_44 (no (fun z => q1 z.1))
theorem sp_isSo_f (s : mS c n K P B h) (r : rwR 159 0 nr U V h) {e : Nat → Nat} (o : okO h n e) (he : ∀ i, i < n → e i < 5) : ∀ (f i : Nat), i ≤ f → i < nr → XX true (f+4) 206 0 [.ref 153, .int (nI i), ax_junk, ax_junk, ax_junk] [] (h) (some (.int (b2i (v_so U n e (f + 1) i = true))), h) := by
  intro f
  induction f with
  | zero =>
    intro i hi hn
    obtain rfl : i = 0 := by omega
    exact sp_isSo_s s r o he (f := 0) hn (fun x hx => absurd hx (Nat.not_lt_zero _))
  | succ f ih =>
    intro i hi hn
    exact sp_isSo_s s r o he (f := f + 1) hn (fun x hx => (ih x (by omega) (by omega)).mono (by omega))
end S25
