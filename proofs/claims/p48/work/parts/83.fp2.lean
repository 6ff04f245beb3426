/-! DOUBLES: quotients, comparisons, what the law does with them -/
theorem i_n2 (k U y : Int) : (k + 1) * U * y = k * y * U + U * y := by rw [Int.add_mul, Int.add_mul, Int.one_mul, Int.mul_right_comm]
theorem i_n3 (k U y : Int) : (k + 1) * y * U = k * y * U + U * y := by rw [Int.add_mul, Int.add_mul, Int.one_mul, Int.mul_comm y U]
theorem i_e1 (a b y y' : Int) : (a - b) * (y * y') = a * y * y' - b * y' * y := by rw [Int.sub_mul, Int.mul_assoc, Int.mul_assoc, Int.mul_comm y' y]
theorem i_e2 (x N U y y' : Int) : (x * N + U * y) * y' = x * y' * N + U * (y * y') := by rw [Int.add_mul, Int.mul_right_comm, Int.mul_assoc U]
theorem i_e3 (x N U y y' : Int) : (x * N - U * y') * y = x * y * N - U * (y * y') := by rw [Int.sub_mul, Int.mul_right_comm, Int.mul_assoc U, Int.mul_comm y' y]
theorem i_q1 {x A t y N : Int} (z : Int) (e : x * A = t * y) : (z * A - t * N) * y = (z * y - x * N) * A := by
  rw [Int.sub_mul, Int.sub_mul, Int.mul_right_comm z, Int.mul_right_comm t, ← e, Int.mul_right_comm x]
theorem i_q2 {x A t y N : Int} (z : Int) (e : x * A = t * y) : (t * N - z * A) * y = (x * N - z * y) * A := by
  rw [Int.sub_mul, Int.sub_mul, Int.mul_right_comm z, Int.mul_right_comm t, ← e, Int.mul_right_comm x]
theorem i_m2 (m U A : Int) : (m + 2) * U * A = m * U * A + U * A + U * A := by
  rw [Int.add_mul, Int.add_mul, show (2 : Int) * U = U + U by omega, Int.add_mul]
  omega
theorem f_units {c d : Nat} {q r : Int} (hq : -1074 ≤ q) (hr : -1074 ≤ r) (hr2 : r ≤ 1000) (v : Nat) : FP.Core.inUnits c (q - r) (-2200) * 2 ^ (r + 1074).toNat = FP.Core.inUnits c q (-1074) * 2 ^ 1074 * 2 ^ 1126 ∧ v * 2 ^ 1126 * d * 2 ^ (r + 1074).toNat = v * FP.Core.inUnits d r (-1074) * 2 ^ 1126 := by
  unfold FP.Core.inUnits
  constructor
  · rw [Nat.mul_assoc, ← Nat.pow_add, Nat.mul_assoc, Nat.mul_assoc, ← Nat.pow_add, ← Nat.pow_add]
    congr 2
    omega
  · rw [show r - -1074 = r + 1074 by omega]
    generalize 2 ^ (r + 1074).toNat = P
    generalize 2 ^ 1126 = A
    rw [Nat.mul_assoc v A d, Nat.mul_comm A d, Nat.mul_assoc v, Nat.mul_assoc v, Nat.mul_assoc d A P, Nat.mul_comm A P, ← Nat.mul_assoc d P A]
theorem f_unit_le {c d : Nat} {q r : Int} (hq : -1074 ≤ q) (hr : -1074 ≤ r) (hr2 : r ≤ 1000) {v : Nat} : (FP.Core.inUnits c (q - r) (-2200) ≤ v * 2 ^ 1126 * d ↔ FP.Core.inUnits c q (-1074) * 2 ^ 1074 ≤ v * FP.Core.inUnits d r (-1074)) ∧ (v * 2 ^ 1126 * d ≤ FP.Core.inUnits c (q - r) (-2200) ↔ v * FP.Core.inUnits d r (-1074) ≤ FP.Core.inUnits c q (-1074) * 2 ^ 1074) := by
  obtain ⟨e1, e2⟩ := f_units (c := c) (d := d) hq hr hr2 v
  have p1 : 0 < 2 ^ (r + 1074).toNat := Nat.two_pow_pos _
  have p2 : 0 < 2 ^ 1126 := Nat.two_pow_pos _
  generalize 2 ^ (r + 1074).toNat = P at *
  generalize FP.Core.inUnits c (q - r) (-2200) = I at *
  generalize FP.Core.inUnits c q (-1074) * 2 ^ 1074 = X at *
  generalize v * FP.Core.inUnits d r (-1074) = Y at *
  generalize v * 2 ^ 1126 * d = J at *
  generalize 2 ^ 1126 = A at *
  constructor
  · rw [← Nat.mul_le_mul_right_iff p1, e1, e2, Nat.mul_le_mul_right_iff p2]
  · rw [← Nat.mul_le_mul_right_iff p1, e1, e2, Nat.mul_le_mul_right_iff p2]
theorem f_div {a b : UInt64} {x y : Int} (ha : FP.Core.DFin a) (hb : FP.Core.DFin b) (za : fz a = x * fN) (zb : fz b = y * fN) (hy : 1 ≤ y) (hxy : x.natAbs ≤ 33554432 * y.natAbs) : FP.Core.DFin (FP.ddiv a b) ∧ fz (FP.ddiv a b) * y - x * fN ≤ fU * y ∧ x * fN - fz (FP.ddiv a b) * y ≤ fU * y := by
  have fa := FP.Core.val64_fits a
  have fb := FP.Core.val64_fits b
  obtain ⟨s, c, q, ea⟩ := ha
  obtain ⟨t, d, r, eb⟩ := hb
  have er : FP.Core.val64 (FP.ddiv a b) = _ := FP.Core.val64_ddiv a b
  unfold FP.Core.DFin fz at *
  rw [ea] at fa za er
  rw [eb] at fb zb er
  have fa2 := fa.2.1
  have fb2 := fb.2.1
  have fb3 : r ≤ 971 := fb.2.2.1
  rw [f_qm] at fa2 fb2
  -- the magnitudes
  have ma : FP.Core.inUnits c q (-1074) = x.natAbs * 2 ^ 1074 := by
    have h := congrArg Int.natAbs za
    rw [show FP.Core.zval FP.Core.b64 (.fin s c q) = FP.Core.signed s (FP.Core.inUnits c q (-1074)) from rfl, FP.Core.natAbs_signed, Int.natAbs_mul] at h
    exact h
  have mb : FP.Core.inUnits d r (-1074) = y.natAbs * 2 ^ 1074 := by
    have h := congrArg Int.natAbs zb
    rw [show FP.Core.zval FP.Core.b64 (.fin t d r) = FP.Core.signed t (FP.Core.inUnits d r (-1074)) from rfl, FP.Core.natAbs_signed, Int.natAbs_mul] at h
    exact h
  have p1074 : 0 < 2 ^ 1074 := Nat.two_pow_pos _
  have fNp : 0 < fN := by decide +kernel
  have hd0 : d ≠ 0 := by
    intro z
    rw [z] at mb
    unfold FP.Core.inUnits at mb
    rw [Nat.zero_mul] at mb
    have := Nat.mul_pos (show 0 < y.natAbs by omega) p1074
    omega
  have ht : t = false := by
    cases t with
    | false => rfl
    | true =>
      exfalso
      have e : FP.Core.zval FP.Core.b64 (.fin true d r) = -((FP.Core.inUnits d r (-1074) : Nat) : Int) := rfl
      rw [e] at zb
      have := Int.mul_le_mul_of_nonneg_right hy (Int.le_of_lt fNp)
      omega
  subst ht
  rw [show FP.Core.quotient FP.Core.b64 (.fin s c q) (.fin false d r) = FP.Core.roundRatio FP.Core.b64 (s != false) c d (q - r) from if_neg hd0, show (s != false) = s by cases s <;> rfl] at er
  rw [er]
  have hdp : 0 < d := Nat.pos_of_ne_zero hd0
  have hyp : 0 < y.natAbs := by omega
  -- between two of the grid
  have k1 := Nat.div_mul_le_self (x.natAbs * 33554432) y.natAbs
  have k2 := Nat.lt_div_mul_add (a := x.natAbs * 33554432) hyp
  have k3 : x.natAbs * 33554432 / y.natAbs ≤ 1125899906842624 := by
    apply Nat.div_le_of_le_mul
    omega
  generalize hk : x.natAbs * 33554432 / y.natAbs = k at *
  obtain ⟨V1, v1, v2, -, v4⟩ := f_grid (k : Int) (by omega)
  obtain ⟨V2, w1, w2, -, w4⟩ := f_grid ((k + 1 : Nat) : Int) (by omega)
  rw [Int.natAbs_natCast] at v4 w4
  have pe : (2 : Nat) ^ 1074 = 33554432 * 2 ^ 1049 := by rw [show (33554432 : Nat) = 2 ^ 25 by decide, ← Nat.pow_add]
  have ge := FP.Core.zmag_roundRatio_ge FP.Core.good_b64 (s := s) (A := c) (B := d) (e := q - r) (e0 := -2200) hdp v1 (by rw [f_qm]; decide) (by omega) (by
    rw [v4, show (FP.Core.b64.qmin - -2200).toNat = 1126 by rw [f_qm]; rfl]
    refine (f_unit_le (by omega) (by omega) (by omega)).2.mpr ?_
    rw [ma, mb]
    generalize 2 ^ 1049 = A at *
    rw [pe]
    calc k * A * (y.natAbs * (33554432 * A)) = (k * y.natAbs) * (A * (33554432 * A)) := by ac_rfl
      _ ≤ (x.natAbs * 33554432) * (A * (33554432 * A)) := Nat.mul_le_mul_right _ k1
      _ = x.natAbs * (33554432 * A) * (33554432 * A) := by ac_rfl)
  have le := FP.Core.zmag_roundRatio_le FP.Core.good_b64 (s := s) (A := c) (B := d) (e := q - r) (e0 := -2200) hdp w1 w2 (by rw [f_qm]; decide) (by omega) (by
    rw [w4, show (FP.Core.b64.qmin - -2200).toNat = 1126 by rw [f_qm]; rfl]
    refine (f_unit_le (by omega) (by omega) (by omega)).1.mpr ?_
    rw [ma, mb]
    generalize 2 ^ 1049 = A at *
    rw [pe]
    calc x.natAbs * (33554432 * A) * (33554432 * A) = (x.natAbs * 33554432) * (A * (33554432 * A)) := by ac_rfl
      _ ≤ ((k + 1) * y.natAbs) * (A * (33554432 * A)) := Nat.mul_le_mul_right _ (by rw [Nat.succ_mul]; omega)
      _ = (k + 1) * A * (y.natAbs * (33554432 * A)) := by ac_rfl)
  rw [v4] at ge
  rw [w4] at le
  have es : FP.Core.zval FP.Core.b64 (FP.Core.roundRatio FP.Core.b64 s c d (q - r)) = FP.Core.signed s (FP.Core.zmag FP.Core.b64 (FP.Core.roundRatio FP.Core.b64 s c d (q - r))) := by
    unfold FP.Core.zval
    rw [FP.Core.sgn_roundRatio]
  have hn := FP.Core.roundRatio_ne_nan FP.Core.b64 s c d (q - r)
  have fin := f_fin (d := FP.Core.roundRatio FP.Core.b64 s c d (q - r)) hn (m := 1125899906842625)
  rw [es] at fin ⊢
  generalize FP.Core.zmag FP.Core.b64 (FP.Core.roundRatio FP.Core.b64 s c d (q - r)) = Z at *
  have geI : (k : Int) * fU ≤ (Z : Int) := by unfold fU; rw [← Int.natCast_mul]; exact Int.ofNat_le.mpr ge
  have leI : (Z : Int) ≤ ((k : Int) + 1) * fU := by unfold fU; rw [show ((k : Int) + 1) = ((k + 1 : Nat) : Int) from rfl, ← Int.natCast_mul]; exact Int.ofNat_le.mpr le
  have hU := fU_pos
  have leI2 : (Z : Int) ≤ 1125899906842625 * fU := Int.le_trans leI (Int.mul_le_mul_of_nonneg_right (by omega) (Int.le_of_lt hU))
  refine ⟨fin ?_ ?_ (by decide), ?_⟩
  · cases s <;> simp only [FP.Core.signed, if_true, Bool.false_eq_true, if_false] <;> omega
  · cases s <;> simp only [FP.Core.signed, if_true, Bool.false_eq_true, if_false] <;> omega
  · -- |x| N = |x| * 33554432 * U
    have yn : (y.natAbs : Int) = y := Int.natAbs_of_nonneg (by omega)
    have k1I : (k : Int) * y ≤ (x.natAbs : Int) * 33554432 := by
      have h : (k : Int) * (y.natAbs : Int) ≤ (x.natAbs : Int) * 33554432 := by omega
      rw [yn] at h
      exact h
    have k2I : (x.natAbs : Int) * 33554432 ≤ ((k : Int) + 1) * y := by
      have h : (x.natAbs : Int) * 33554432 ≤ (k : Int) * (y.natAbs : Int) + (y.natAbs : Int) := by omega
      rw [yn] at h
      rw [Int.add_mul, Int.one_mul]
      exact h
    have m1 : (k : Int) * fU * y ≤ (Z : Int) * y := Int.mul_le_mul_of_nonneg_right geI (by omega)
    have m2 : (Z : Int) * y ≤ ((k : Int) + 1) * fU * y := Int.mul_le_mul_of_nonneg_right leI (by omega)
    have m3 : (k : Int) * y * fU ≤ (x.natAbs : Int) * 33554432 * fU := Int.mul_le_mul_of_nonneg_right k1I (Int.le_of_lt hU)
    have m4 : (x.natAbs : Int) * 33554432 * fU ≤ ((k : Int) + 1) * y * fU := Int.mul_le_mul_of_nonneg_right k2I (Int.le_of_lt hU)
    have n1 : (k : Int) * fU * y = (k : Int) * y * fU := Int.mul_right_comm _ _ _
    have n2 : ((k : Int) + 1) * fU * y = (k : Int) * y * fU + fU * y := i_n2 _ _ _
    have n3 : ((k : Int) + 1) * y * fU = (k : Int) * y * fU + fU * y := i_n3 _ _ _
    have n4 : (x.natAbs : Int) * fN = (x.natAbs : Int) * 33554432 * fU := by rw [fNU, Int.mul_assoc]
    have sx : (s = false → x * fN = (x.natAbs : Int) * fN) ∧ (s = true → x * fN = -((x.natAbs : Int) * fN)) := by
      have em : ((FP.Core.inUnits c q (-1074) : Nat) : Int) = (x.natAbs : Int) * fN := by rw [ma]; rfl
      refine ⟨fun z => ?_, fun z => ?_⟩ <;> subst z
      · rw [← za, ← em]; rfl
      · rw [← za, ← em]; rfl
    cases s with
    | false =>
      have e := sx.1 rfl
      simp only [FP.Core.signed, Bool.false_eq_true, if_false]
      omega
    | true =>
      have e := sx.2 rfl
      simp only [FP.Core.signed, if_true]
      rw [Int.neg_mul]
      omega
/-- near a fraction -/
def FQ (a : UInt64) (x y : Int) : Prop := FP.Core.DFin a ∧ 1 ≤ y ∧ fz a * y - x * fN ≤ fU * y ∧ x * fN - fz a * y ≤ fU * y
theorem f_quot {u d : Int64} (hd : 1 ≤ d.toInt) (hd2 : d.toInt ≤ 33554432) (hu : u.toInt.natAbs ≤ 33554432) : FQ (FP.ddiv (FP.l2d u) (FP.l2d d)) u.toInt d.toInt := by
  have a := f_l2d (x := u) (by omega)
  have b := f_l2d (x := d) (by omega)
  have c := f_div a.1 b.1 a.2 b.2 hd (by omega)
  exact ⟨c.1, hd, c.2⟩
theorem f_nn {a : UInt64} (h : FP.Core.DFin a) : dNN a = true := by
  have h1 := (FP.Core.fin_bits a).mp h
  unfold dNN
  rw [decide_eq_true_eq, UInt64.le_iff_toNat_le, FP.Core.mask_toNat]
  exact Nat.le_of_lt h1
theorem f_cmp {a b : UInt64} (ha : FP.Core.DFin a) (hb : FP.Core.DFin b) : FP.dcmp a b = some (compare (fz a) (fz b)) := FP.Core.dcmp_zval ha.ne_nan hb.ne_nan
/-- not less -/
theorem f_nlt {a b : UInt64} (ha : FP.Core.DFin a) (hb : FP.Core.DFin b) (h : fz b ≤ fz a) : ¬ Op.cmpValue (FP.dcmp a b) .g < nI 0 := by
  rw [f_cmp ha hb]
  have h1 : compare (fz a) (fz b) ≠ .lt := fun z => by have := (FP.Core.compare_lt_iff _ _).mp z; omega
  cases e : compare (fz a) (fz b) with
  | lt => exact absurd e h1
  | eq => show ¬ (0 : Int32) < nI 0; decide
  | gt => show ¬ (1 : Int32) < nI 0; decide
/-- not more -/
theorem f_ngt {a b : UInt64} (ha : FP.Core.DFin a) (hb : FP.Core.DFin b) (h : fz a ≤ fz b) : Op.cmpValue (FP.dcmp a b) .l ≤ nI 0 := by
  rw [f_cmp ha hb]
  have h1 : compare (fz a) (fz b) ≠ .gt := fun z => by have := (FP.Core.compare_gt_iff _ _).mp z; omega
  cases e : compare (fz a) (fz b) with
  | gt => exact absurd e h1
  | eq => show (0 : Int32) ≤ nI 0; decide
  | lt => show (-1 : Int32) ≤ nI 0; decide
theorem FQ.bd {a : UInt64} {x y : Int} (h : FQ a x y) (hx : x.natAbs ≤ 33550000) : -(33550001 * fN) ≤ fz a ∧ fz a ≤ 33550001 * fN := by
  obtain ⟨-, h1, h2, h3⟩ := h
  have hU := fU_pos
  have hN := fNU
  have a1 : x * fN ≤ 33550000 * fN := Int.mul_le_mul_of_nonneg_right (by omega) (by omega)
  have a2 : -33550000 * fN ≤ x * fN := Int.mul_le_mul_of_nonneg_right (by omega) (by omega)
  have b1 : 33550000 * fN * 1 ≤ 33550000 * fN * y := Int.mul_le_mul_of_nonneg_left h1 (by omega)
  have b2 : fU * y ≤ fN * y := Int.mul_le_mul_of_nonneg_right (by omega) (by omega)
  constructor
  · refine Int.le_of_mul_le_mul_right (a := y) ?_ (by omega)
    rw [Int.neg_mul, show 33550001 * fN * y = 33550000 * fN * y + fN * y by rw [← Int.add_mul, show 33550000 * fN + fN = 33550001 * fN by omega]]
    omega
  · refine Int.le_of_mul_le_mul_right (a := y) ?_ (by omega)
    rw [show 33550001 * fN * y = 33550000 * fN * y + fN * y by rw [← Int.add_mul, show 33550000 * fN + fN = 33550001 * fN by omega]]
    omega
theorem FQ.le {a b : UInt64} {x y x' y' : Int} (h : FQ a x y) (g : FQ b x' y') (le : x * y' ≤ x' * y) : fz a - fz b ≤ 2 * fU := by
  obtain ⟨-, h1, h2, h3⟩ := h
  obtain ⟨-, g1, g2, g3⟩ := g
  have hU := fU_pos
  have hN : 0 < fN := by have := fNU; omega
  refine Int.le_of_mul_le_mul_right (a := y * y') ?_ (Int.mul_pos (by omega) (by omega))
  have a1 : fz a * y * y' ≤ (x * fN + fU * y) * y' := Int.mul_le_mul_of_nonneg_right (by omega) (by omega)
  have a2 : (x' * fN - fU * y') * y ≤ fz b * y' * y := Int.mul_le_mul_of_nonneg_right (by omega) (by omega)
  have a3 : x * y' * fN ≤ x' * y * fN := Int.mul_le_mul_of_nonneg_right le (by omega)
  have e1 : (fz a - fz b) * (y * y') = fz a * y * y' - fz b * y' * y := i_e1 _ _ _ _
  have e2 : (x * fN + fU * y) * y' = x * y' * fN + fU * (y * y') := i_e2 _ _ _ _ _
  have e3 : (x' * fN - fU * y') * y = x' * y * fN - fU * (y * y') := i_e3 _ _ _ _ _
  have e4 : 2 * fU * (y * y') = fU * (y * y') + fU * (y * y') := by rw [Int.mul_assoc]; omega
  rw [e1, e4]
  omega
abbrev fE : UInt64 := 4517329193108106637
theorem fE_fin : FP.Core.DFin fE := by rw [FP.Core.fin_bits]; decide +kernel
theorem fE_z : 8 * fU ≤ fz fE ∧ fz fE ≤ fN := by decide +kernel
/-- best is not below now less a little -/
theorem f_best {a b : UInt64} {x y x' y' : Int} (h : FQ a x y) (g : FQ b x' y') (hx : x.natAbs ≤ 33550000) (le : x * y' ≤ x' * y) : dNN (FP.dsub a fE) = true ∧ ¬ Op.cmpValue (FP.dcmp b (FP.dsub a fE)) .g < nI 0 := by
  have h1 := h.bd hx
  have h2 := h.le g le
  have z := fE_z
  have hU := fU_pos
  have hN := fNU
  have s := f_sub h.1 fE_fin (by omega) (by omega)
  exact ⟨f_nn s.1, f_nlt g.1 s.1 (by omega)⟩
theorem f_mean {a b : UInt64} {x y x' y' : Int} (h : FQ a x y) (g : FQ b x' y') (hx : x'.natAbs ≤ 33550000) (le : x * y' ≤ x' * y) : dNN (FP.dadd b fE) = true ∧ Op.cmpValue (FP.dcmp a (FP.dadd b fE)) .l ≤ nI 0 := by
  have h1 := g.bd hx
  have h2 := h.le g le
  have z := fE_z
  have hU := fU_pos
  have hN := fNU
  have s := f_add g.1 fE_fin (by omega) (by omega)
  exact ⟨f_nn s.1, f_ngt h.1 s.1 (by omega)⟩
/-- shares of A, together: near T of A -/
def FA (s : UInt64) (T A m : Int) : Prop := FP.Core.DFin s ∧ 0 ≤ T ∧ T ≤ A ∧ 1 ≤ A ∧ fz s * A - T * fN ≤ m * fU * A ∧ T * fN - fz s * A ≤ m * fU * A
theorem FA_0 {A : Int} (h : 1 ≤ A) : FA 0 0 A 0 := by
  have e : fz 0 = 0 := by decide +kernel
  refine ⟨by rw [FP.Core.fin_bits]; decide, Int.le_refl _, by omega, h, ?_, ?_⟩ <;> rw [e] <;> simp
theorem FA_z {s : UInt64} {T A m : Int} (h : FA s T A m) (hm : m ≤ 10) : -(2 * fN) ≤ fz s ∧ fz s ≤ 2 * fN := by
  obtain ⟨-, h1, h2, h3, h4, h5⟩ := h
  have hU := fU_pos
  have hN := fNU
  have a1 : T * fN ≤ A * fN := Int.mul_le_mul_of_nonneg_right h2 (by omega)
  have a2 : 0 ≤ T * fN := Int.mul_nonneg h1 (by omega)
  have a3 : m * fU ≤ 10 * fU := Int.mul_le_mul_of_nonneg_right hm (by omega)
  have a4 : m * fU * A ≤ fN * A := Int.mul_le_mul_of_nonneg_right (by omega) (by omega)
  have e : fN * A = A * fN := Int.mul_comm _ _
  constructor
  · refine Int.le_of_mul_le_mul_right (a := A) ?_ (by omega)
    rw [Int.neg_mul, Int.mul_assoc]
    have : 0 ≤ fN * A := Int.mul_nonneg (by omega) (by omega)
    omega
  · refine Int.le_of_mul_le_mul_right (a := A) ?_ (by omega)
    rw [Int.mul_assoc]
    omega
/-- one share more: t of A, in whatever terms -/
theorem FA_s {s b : UInt64} {T A m x y t : Int} (h : FA s T A m) (hm : m ≤ 8) (h0 : 0 ≤ m) (g : FQ b x y) (ht : 0 ≤ t) (hT : T + t ≤ A) (e : x * A = t * y) : dNN (FP.dadd s b) = true ∧ FA (FP.dadd s b) (T + t) A (m + 2) := by
  have hz := FA_z h (by omega)
  obtain ⟨f1, h1, h2, h3, h4, h5⟩ := h
  obtain ⟨f2, g1, g2, g3⟩ := g
  have hU := fU_pos
  have hN := fNU
  -- the share itself
  have q1 : fz b * A - t * fN ≤ fU * A := by
    refine Int.le_of_mul_le_mul_right (a := y) ?_ (by omega)
    have := Int.mul_le_mul_of_nonneg_right g2 (show 0 ≤ A by omega)
    have e1 : (fz b * A - t * fN) * y = (fz b * y - x * fN) * A := i_q1 _ e
    have e2 : fU * A * y = fU * y * A := Int.mul_right_comm _ _ _
    rw [e1, e2]
    exact this
  have q2 : t * fN - fz b * A ≤ fU * A := by
    refine Int.le_of_mul_le_mul_right (a := y) ?_ (by omega)
    have := Int.mul_le_mul_of_nonneg_right g3 (show 0 ≤ A by omega)
    have e1 : (t * fN - fz b * A) * y = (x * fN - fz b * y) * A := i_q2 _ e
    have e2 : fU * A * y = fU * y * A := Int.mul_right_comm _ _ _
    rw [e1, e2]
    exact this
  have hb : FA b t A 1 := ⟨f2, ht, by omega, h3, by rw [Int.one_mul]; exact q1, by rw [Int.one_mul]; exact q2⟩
  have hz2 := FA_z hb (by decide)
  have s3 := f_add f1 f2 (by omega) (by omega)
  refine ⟨f_nn s3.1, s3.1, by omega, hT, h3, ?_, ?_⟩
  · have a := Int.mul_le_mul_of_nonneg_right (show fz (FP.dadd s b) ≤ fz s + fz b + fU by omega) (show 0 ≤ A by omega)
    have e1 : (fz s + fz b + fU) * A = fz s * A + fz b * A + fU * A := by rw [Int.add_mul, Int.add_mul]
    have e2 : (m + 2) * fU * A = m * fU * A + fU * A + fU * A := i_m2 _ _ _
    have e3 : (T + t) * fN = T * fN + t * fN := Int.add_mul _ _ _
    rw [e2, e3]
    omega
  · have a := Int.mul_le_mul_of_nonneg_right (show fz s + fz b - fU ≤ fz (FP.dadd s b) by omega) (show 0 ≤ A by omega)
    have e1 : (fz s + fz b - fU) * A = fz s * A + fz b * A - fU * A := by rw [Int.sub_mul, Int.add_mul]
    have e2 : (m + 2) * fU * A = m * fU * A + fU * A + fU * A := i_m2 _ _ _
    have e3 : (T + t) * fN = T * fN + t * fN := Int.add_mul _ _ _
    rw [e2, e3]
    omega
abbrev fLo : UInt64 := 4607182409792818153
abbrev fHi : UInt64 := 4607182423303617035
theorem fLH : FP.Core.DFin fLo ∧ FP.Core.DFin fHi ∧ fz fLo + 12 * fU ≤ fN ∧ fN + 12 * fU ≤ fz fHi := by
  refine ⟨by rw [FP.Core.fin_bits]; decide +kernel, by rw [FP.Core.fin_bits]; decide +kernel, by decide +kernel, by decide +kernel⟩
/-- all shares together are one, or near it -/
theorem FA_1 {s : UInt64} {A : Int} (h : FA s A A 10) : ¬ Op.cmpValue (FP.dcmp s fLo) .g < nI 0 ∧ Op.cmpValue (FP.dcmp s fHi) .l ≤ nI 0 := by
  obtain ⟨f1, h1, h2, h3, h4, h5⟩ := h
  obtain ⟨l1, l2, l3, l4⟩ := fLH
  have a1 : fz s ≤ fN + 10 * fU := by
    refine Int.le_of_mul_le_mul_right (a := A) ?_ (by omega)
    rw [Int.add_mul, Int.mul_comm fN A]
    omega
  have a2 : fN - 10 * fU ≤ fz s := by
    refine Int.le_of_mul_le_mul_right (a := A) ?_ (by omega)
    rw [Int.sub_mul, Int.mul_comm fN A]
    omega
  have hU := fU_pos
  exact ⟨f_nlt f1 l1 (by omega), f_ngt f1 l2 (by omega)⟩
