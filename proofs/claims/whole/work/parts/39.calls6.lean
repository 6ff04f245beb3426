/-! THE REFERENCE'S CALLS: means, replies, the stake raised -/
section S39
variable {c n np nr : Nat} {K P B T C : Nat → Nat} {U : Nat → Nat → Nat} {V W : Nat → Int} {h h' : AH}
abbrev isBy (b : Int64) : Prop := lN 1 ≤ b ∧ b ≤ lN 1000000000
abbrev isRaise (sk : Nat) (b : Int64) : Prop := isBy b ∧ v_fit (lN sk) b.toInt.toNat
def a_raise (sk : Nat) (b : Int64) : Int32 := if isBy b then (if v_fit (lN sk) b.toInt.toNat then nI 1 else -nI 5) else -nI 2
theorem isBy.ex {b : Int64} (q : isBy b) : ∃ k, b = lN k ∧ 1 ≤ k ∧ k ≤ 1000000000 := by
  have a1 := Int64.le_iff_toInt_le.mp q.1
  have a2 := Int64.le_iff_toInt_le.mp q.2
  rw [pk_lT (by decide)] at a1 a2
  refine ⟨b.toInt.toNat, Int64.toInt_inj.mp ?_, by omega, by omega⟩
  rw [pk_lT (by omega)]
  omega
theorem mo_raise {sk : Nat} (k : mK sk h) (b : Int64) : (isRaise sk b → ∃ h', XX true 2 223 0 [.ref 153, .long (b), ax_junk] [] (h) (some (.int (a_raise sk b)), h') ∧ fr [(153, some 10)] h h' ∧ mK (sk * b.toInt.toNat) h') ∧ (¬ isRaise sk b → XX true 2 223 0 [.ref 153, .long (b), ax_junk] [] (h) (some (.int (a_raise sk b)), h)) := by
  unfold a_raise
  have pre : ∀ R, (¬ isBy b → R = (some (.int (-nI 2)), h)) → (isBy b → XX true 2 223 22 [.ref 153, .long (b), ax_junk] [.int (b2i (v_fit (lN sk) b.toInt.toNat))] (h) (R)) → XX true 2 223 0 [.ref 153, .long b, ax_junk] [] h R := by
    intro R u u2
    refine wb_X12_raise_0 ?_
    refine (cl_X12_raise_5 rfl (by decide) (sp_in _ _ _ _)).mpr ?_
    refine wb_X12_raise_8 ?_
    by_cases q : isBy b
    · rw [b2i_t q, if_neg (by decide), k.1]
      obtain ⟨x, e, x1, x2⟩ := q.ex
      have ex : b.toInt.toNat = x := by rw [e, pk_lT (by omega)]; omega
      have u3 := u2 q
      rw [ex] at u3
      refine (cl_X12_raise_19 rfl (by decide) ((show XX true 1 211 0 [.long (lN sk), ax_junk, .long b, ax_junk, ax_junk, ax_junk] [] h (some (.int (b2i (v_fit (lN sk) x))), h) by rw [e]; exact sp_fits _ (by omega) (by omega) _))).mpr ?_
      exact wk_X12_raise_22 u3
    · rw [b2i_f q, if_pos rfl]
      exact u q
  constructor
  · intro q
    obtain ⟨x, e, x1, x2⟩ := q.1.ex
    have ex : b.toInt.toNat = x := by rw [e, pk_lT (by omega)]; omega
    have q2 := q.2
    rw [ex] at q2 ⊢
    have sT : (lN sk).toInt = sk := pk_lT k.2.2
    have pb : sk * x < 9223372036854775808 := by
      have := q2.2
      rw [sT] at this
      have h2 : ((sk * x : Nat) : Int) < 9223372036854775808 := by rw [Int.natCast_mul]; exact this
      omega
    refine ⟨ax_wr h 153 10 (.long (lN (sk * x))), pre _ (fun u => absurd q.1 u) (fun _ => ?_), fr.wr rfl, wr_L _ _ _ _, Nat.mul_pos k.2.1 (by omega), by omega⟩
    refine wb_X12_raise_22 ?_
    rw [ex, b2i_t q2, if_neg (by decide), if_pos q.1, if_pos q2, k.1, e, lN_mul]
  · intro q
    refine pre _ (fun u => by rw [if_neg u]) (fun u => ?_)
    refine wb_X12_raise_22 ?_
    have nq : ¬ v_fit (lN sk) b.toInt.toNat := fun z => q ⟨u, z⟩
    rw [b2i_f nq, if_pos rfl, if_pos u, if_neg nq]
def v_mean (A : Int) (D sk : Nat) (part : Int32) : Int64 := if lI A / lN (Nat.gcd A.natAbs D) = lN 0 then part.toInt64 else if v_fit (lI A / lN (Nat.gcd A.natAbs D)) (sk / Nat.gcd sk (D / Nat.gcd A.natAbs D)) then (if part = nI 0 then lI A / lN (Nat.gcd A.natAbs D) * lN (sk / Nat.gcd sk (D / Nat.gcd A.natAbs D)) else lN (D / Nat.gcd A.natAbs D / Nat.gcd sk (D / Nat.gcd A.natAbs D))) else lNO 5
def a_mean (c n : Nat) (K P B : Nat → Nat) (ch : Nat → Nat → Nat → Nat) (U : Nat → Nat → Nat) (V W : Nat → Int) (nr sk : Nat) (p part : Int32) : Int64 := if isPl p ∧ isPt part then v_mean (sumZ (v_sumf c n K P B ch U V W nr 3 (ix p)) (v_ways c K B n)) (v_chn c K B n) sk part else lNO 2
theorem mo_mean (s : mS c n K P B h) (t : mP np T C h) (r : mR nr U V h) (w : mW W h) {sk : Nat} (k : mK sk h) (p part : Int32) : ∃ h', XX true 18 212 0 [.ref 153, .int (p), .int (part), ax_junk, ax_junk, ax_junk, ax_junk, ax_junk, ax_junk] [] (h) (some (.long (a_mean c n K P B (v_chs np T C B) U V W nr sk p part)), h') ∧ fr [(160, none)] h h' := by
  have h6 := s.n6
  have wl := v_ways_le s.1 (Nat.le_refl n)
  unfold a_mean
  have no : ∀ R, R = (some (Value.long (lNO 2)), h) → XX true 18 212 14 [ax_junk, ax_junk, ax_junk, ax_junk, ax_junk, ax_junk, ax_junk, ax_junk, ax_junk] [] (h) (R) := by
    intro R z
    refine wb_X12_mean_14 ?_
    refine (cl_X12_mean_16 rfl (by decide) (sp_refused _ _)).mpr ?_
    refine wb_X12_mean_19 ?_
    exact z
  by_cases q : isPl p ∧ isPt part
  · obtain ⟨q0, q1⟩ := id q
    obtain ⟨a, ha, rfl⟩ := q0.ex
    rw [if_pos q, ix_nI (by omega)]
    obtain ⟨h1, r1, f⟩ := sp_sumOf s t w r ha
    have s1 : mS c n K P B h1 := s.fr f rfl
    have kk := k.fr f rfl
    have sb := sumZ_le (v_sumf_le (nr := nr) (U := U) (V := V) (W := W) s.1 r.2.1 (fun i hi => (w i hi).2) (v_chs np T C B) 3 a) (v_ways c K B n)
    have cb := v_chn_le s.1 n (Nat.le_refl _)
    generalize sumZ (v_sumf c n K P B (v_chs np T C B) U V W nr 3 a) (v_ways c K B n) = A at *
    have cc := sp_chanceBelow s1
    generalize v_chn c K B n = D at *
    have AT : (lI A).toInt = A := lI_toInt (by omega) (by omega)
    have g1 : 0 < Nat.gcd A.natAbs D := Nat.gcd_pos_of_pos_right _ (by omega)
    have g2 : Nat.gcd A.natAbs D ≤ D := Nat.gcd_le_right _ (by omega)
    have dv1 := sp_divisor (lI A) (b := D) (by rw [AT]; omega) (by omega) h1
    rw [AT] at dv1
    have gd : Nat.gcd A.natAbs D ∣ D := Nat.gcd_dvd_right _ _
    have ud : 0 < D / Nat.gcd A.natAbs D := Nat.div_pos g2 g1
    have ul : D / Nat.gcd A.natAbs D ≤ D := Nat.div_le_self _ _
    have sT : (lN sk).toInt = sk := pk_lT k.2.2
    unfold v_mean
    generalize Nat.gcd A.natAbs D = G at *
    generalize hE : D / G = E at *
    have b1 : 0 < Nat.gcd sk E := Nat.gcd_pos_of_pos_right _ ud
    have b2 : Nat.gcd sk E ≤ E := Nat.gcd_le_right _ ud
    have b3 : Nat.gcd sk E ≤ sk := Nat.gcd_le_left _ k.2.1
    have dv2 := sp_divisor (lN sk) (b := E) (by rw [sT]; omega) (by omega) h1
    rw [show (lN sk).toInt.natAbs = sk by rw [sT]; omega] at dv2
    have sd : 0 < sk / Nat.gcd sk E := Nat.div_pos b3 b1
    have sl : sk / Nat.gcd sk E ≤ sk := Nat.div_le_self _ _
    have k2 := k.2.2
    have nz : ∀ x : Nat, 0 < x → x < 2 ^ 63 → (!decide (lN x = 0)) = true := by
      intro x x1 x2
      simp only [Bool.not_eq_true', decide_eq_false_iff_not]
      intro z
      have := (pk_lEQ (b := 0) (by omega) (by omega)).mp z
      omega
    refine ⟨h1, ?_, f⟩
    refine wb_X12_mean_0 ?_
    refine (cl_X12_mean_1 rfl (by decide) (sp_isPlayer _ _)).mpr ?_
    refine wb_X12_mean_4 ?_
    rw [b2i_t q0, if_neg (by decide)]
    refine (cl_X12_mean_8 rfl (by decide) (sp_isPart _ _)).mpr ?_
    refine wb_X12_mean_11 ?_
    rw [b2i_t q1, if_neg (by decide)]
    refine (cl_X12_mean_22 rfl (by decide) (r1)).mpr ?_
    refine wb_X12_mean_25 ?_
    refine (cl_X12_mean_27 rfl (by decide) (cc)).mpr ?_
    refine wb_X12_mean_30 ?_
    refine (cl_X12_mean_35 rfl (by decide) (dv1)).mpr ?_
    refine wb_X12_mean_38 ?_
    rw [pk_lDiv (by omega) g1 (by omega), hE, kk.1]
    refine ⟨nz _ g1 (by omega), nz _ g1 (by omega), ?_⟩
    refine (cl_X12_mean_58 rfl (by decide) (dv2)).mpr ?_
    refine wb_X12_mean_61 ?_
    refine ⟨nz _ b1 (by omega), ?_⟩
    by_cases z : lI A / lN G = lN 0
    · rw [if_pos ((lg_eq0 _ _).mpr z), if_pos z]
    · rw [if_neg (fun u => z ((lg_eq0 _ _).mp u)), if_neg z, kk.1, pk_lDiv (by omega) b1 (by omega), pk_lDiv k2 b1 (by omega)]
      refine ⟨nz _ b1 (by omega), ?_⟩
      refine (cl_X12_mean_87 rfl (by decide) (sp_fits _ sd (by omega) _)).mpr ?_
      refine wb_X12_mean_90 ?_
      by_cases z2 : v_fit (lI A / lN G) (sk / Nat.gcd sk E)
      · rw [b2i_t z2, if_neg (by decide), if_pos z2]
        by_cases z3 : part = nI 0
        · rw [if_pos z3, if_pos z3, kk.1, pk_lDiv k2 b1 (by omega)]
          exact ⟨nz _ b1 (by omega), rfl⟩
        · rw [if_neg z3, if_neg z3]
      · rw [b2i_f z2, if_pos rfl, if_neg z2]
        refine (cl_X12_mean_95 rfl (by decide) (sp_refused _ _)).mpr ?_
        refine wb_X12_mean_98 ?_
        rfl
  · rw [if_neg q]
    refine ⟨h, ?_, fr.rfl'⟩
    refine wb_X12_mean_0 ?_
    refine (cl_X12_mean_1 rfl (by decide) (sp_isPlayer _ _)).mpr ?_
    refine wb_X12_mean_4 ?_
    by_cases q0 : isPl p
    · rw [b2i_t q0, if_neg (by decide)]
      refine (cl_X12_mean_8 rfl (by decide) (sp_isPart _ _)).mpr ?_
      refine wb_X12_mean_11 ?_
      rw [b2i_f (fun z => q ⟨q0, z⟩), if_pos rfl]
      exact wk_X12_mean_14 (no _ rfl)
    · rw [b2i_f q0, if_pos rfl]
      exact wk_X12_mean_14 (no _ rfl)
end S39
