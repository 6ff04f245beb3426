/-! DOUBLES: what is computed lies near the exact value -/
def fN : Int := ((2 ^ 1074 : Nat) : Int)
def fU : Int := ((2 ^ 1049 : Nat) : Int)
abbrev fz (a : UInt64) : Int := FP.Core.zval FP.Core.b64 (FP.Core.val64 a)
theorem fNU : fN = 33554432 * fU := by decide +kernel
theorem fU_pos : 0 < fU := by decide +kernel
theorem f_qm : FP.Core.b64.qmin = -1074 := by decide
theorem f_grid (k : Int) (hk : k.natAbs < 2 ^ 53) : ∃ V, FP.Core.fits FP.Core.b64 V ∧ V ≠ .nan ∧ FP.Core.sgn V = decide (k < 0) ∧ FP.Core.zmag FP.Core.b64 V = k.natAbs * 2 ^ 1049 := by
  obtain ⟨c', q', e1, e2⟩ := FP.Core.round_exact FP.Core.good_b64 (decide (k < 0)) (c := k.natAbs) (q := -25) hk (by decide) (by decide)
  refine ⟨FP.Core.round FP.Core.b64 (.fin (decide (k < 0)) k.natAbs (-25)), FP.Core.round_fits FP.Core.good_b64 _, ?_, ?_, ?_⟩
  · rw [e1]; exact FP.Core.Datum.noConfusion
  · rw [e1]; rfl
  · rw [e1]
    show FP.Core.inUnits c' q' FP.Core.b64.qmin = _
    rw [e2]
    unfold FP.Core.inUnits
    rw [f_qm]
    rfl
theorem f_gridz (k : Int) (hk : k.natAbs < 2 ^ 53) : ∃ V, FP.Core.fits FP.Core.b64 V ∧ V ≠ .nan ∧ FP.Core.zval FP.Core.b64 V = k * fU := by
  obtain ⟨V, v1, v2, v3, v4⟩ := f_grid k hk
  refine ⟨V, v1, v2, ?_⟩
  unfold FP.Core.zval
  rw [v3, v4, FP.Core.signed_mul]
  show FP.Core.signed (decide (k < 0)) k.natAbs * fU = k * fU
  congr 1
  unfold FP.Core.signed
  by_cases h : k < 0
  · rw [if_pos (decide_eq_true h)]; omega
  · rw [if_neg (by simpa using h)]; omega
theorem f_fin {d : FP.Core.Datum} (hn : d ≠ .nan) {m : Int} (h1 : -(m * fU) ≤ FP.Core.zval FP.Core.b64 d) (h2 : FP.Core.zval FP.Core.b64 d ≤ m * fU) (hm : m ≤ 9007199254740992) : ∃ s c q, d = .fin s c q := by
  cases d with
  | nan => exact absurd rfl hn
  | fin s c q => exact ⟨s, c, q, rfl⟩
  | inf s =>
    exfalso
    have big : 9007199254740992 * fU < ((FP.Core.b64.tails * 2 ^ (FP.Core.b64.exps - 2) : Nat) : Int) := by decide +kernel
    have hU := fU_pos
    have hm2 : m * fU ≤ 9007199254740992 * fU := Int.mul_le_mul_of_nonneg_right hm (Int.le_of_lt hU)
    have e : FP.Core.zval FP.Core.b64 (.inf s) = FP.Core.signed s (FP.Core.b64.tails * 2 ^ (FP.Core.b64.exps - 2)) := rfl
    rw [e] at h1 h2
    generalize FP.Core.b64.tails * 2 ^ (FP.Core.b64.exps - 2) = T at *
    cases s <;> simp only [FP.Core.signed, if_true, Bool.false_eq_true, if_false] at h1 h2 <;> omega
/-- a sum, rounded -/
theorem f_sum {x y : FP.Core.Datum} (fx : FP.Core.fits FP.Core.b64 x) (fy : FP.Core.fits FP.Core.b64 y) (hx : ∃ s c q, x = .fin s c q) (hy : ∃ s c q, y = .fin s c q) (b1 : -(33554432 * fN) ≤ FP.Core.zval FP.Core.b64 x + FP.Core.zval FP.Core.b64 y) (b2 : FP.Core.zval FP.Core.b64 x + FP.Core.zval FP.Core.b64 y ≤ 33554432 * fN) : (∃ s c q, FP.Core.round FP.Core.b64 (FP.Core.exactSum x y) = .fin s c q) ∧ FP.Core.zval FP.Core.b64 (FP.Core.round FP.Core.b64 (FP.Core.exactSum x y)) - (FP.Core.zval FP.Core.b64 x + FP.Core.zval FP.Core.b64 y) ≤ fU ∧ (FP.Core.zval FP.Core.b64 x + FP.Core.zval FP.Core.b64 y) - FP.Core.zval FP.Core.b64 (FP.Core.round FP.Core.b64 (FP.Core.exactSum x y)) ≤ fU := by
  obtain ⟨s, c, q, rfl⟩ := hx
  obtain ⟨t, d, r, rfl⟩ := hy
  obtain ⟨sg, n, e, e1, e2, e3⟩ := FP.Core.sum_units fx fy
  rw [← e3] at b1 b2 ⊢
  rw [e1]
  have hU := fU_pos
  generalize hS : FP.Core.signed sg (FP.Core.inUnits n e FP.Core.b64.qmin) = S at *
  have k1 : S / fU * fU ≤ S := Int.ediv_mul_le S (Int.ne_of_gt hU)
  have k2 : S < (S / fU + 1) * fU := Int.lt_ediv_add_one_mul_self S hU
  have hN := fNU
  have k3 : -1125899906842624 ≤ S / fU := by
    rw [Int.le_ediv_iff_mul_le hU]
    rw [hN] at b1
    omega
  have k4 : S / fU ≤ 1125899906842624 := by
    have : S / fU * fU ≤ 1125899906842624 * fU := by rw [hN] at b2; omega
    exact Int.le_of_mul_le_mul_right this hU
  obtain ⟨V1, v1, v2, v3⟩ := f_gridz (S / fU) (by omega)
  obtain ⟨V2, w1, w2, w3⟩ := f_gridz (S / fU + 1) (by omega)
  have g1 : (((2 : Nat) ^ (FP.Core.b64.qmin - FP.Core.b64.qmin).toNat : Nat) : Int) = 1 := by rw [Int.sub_self]; rfl
  have lo := FP.Core.zval_round_ge FP.Core.good_b64 (s := sg) (c := n) (q := e) (e0 := FP.Core.b64.qmin) v1 v2 (Int.le_refl _) e2 (by rw [g1, Int.mul_one, v3, hS]; exact k1)
  have hi := FP.Core.zval_round_le FP.Core.good_b64 (s := sg) (c := n) (q := e) (e0 := FP.Core.b64.qmin) w1 w2 (Int.le_refl _) e2 (by rw [g1, Int.mul_one, w3, hS]; exact Int.le_of_lt k2)
  rw [v3] at lo
  rw [w3] at hi
  have hi2 : (S / fU + 1) * fU = S / fU * fU + fU := by rw [Int.add_mul, Int.one_mul]
  rw [hi2] at hi k2
  refine ⟨f_fin (m := 1125899906842625) ?_ ?_ ?_ (by decide), by omega, by omega⟩
  · rw [Ne, FP.Core.round_nan]; exact FP.Core.Datum.noConfusion
  · have : -1125899906842624 * fU ≤ S / fU * fU := Int.mul_le_mul_of_nonneg_right k3 (Int.le_of_lt hU)
    omega
  · have : S / fU * fU ≤ 1125899906842624 * fU := Int.mul_le_mul_of_nonneg_right k4 (Int.le_of_lt hU)
    omega
theorem f_add {a b : UInt64} (ha : FP.Core.DFin a) (hb : FP.Core.DFin b) (b1 : -(33554432 * fN) ≤ fz a + fz b) (b2 : fz a + fz b ≤ 33554432 * fN) : FP.Core.DFin (FP.dadd a b) ∧ fz (FP.dadd a b) - (fz a + fz b) ≤ fU ∧ (fz a + fz b) - fz (FP.dadd a b) ≤ fU := by
  have h := f_sum (FP.Core.val64_fits a) (FP.Core.val64_fits b) ha hb b1 b2
  have e : FP.Core.val64 (FP.dadd a b) = _ := FP.Core.val64_dadd a b
  unfold FP.Core.DFin fz
  rw [e]
  exact h
theorem f_neg {d : FP.Core.Datum} (h : ∃ s c q, d = .fin s c q) : ∃ s c q, FP.Core.negate d = .fin s c q := by
  obtain ⟨s, c, q, rfl⟩ := h
  exact ⟨_, _, _, rfl⟩
theorem f_sub {a b : UInt64} (ha : FP.Core.DFin a) (hb : FP.Core.DFin b) (b1 : -(33554432 * fN) ≤ fz a - fz b) (b2 : fz a - fz b ≤ 33554432 * fN) : FP.Core.DFin (FP.dsub a b) ∧ fz (FP.dsub a b) - (fz a - fz b) ≤ fU ∧ (fz a - fz b) - fz (FP.dsub a b) ≤ fU := by
  have e0 : FP.Core.zval FP.Core.b64 (FP.Core.negate (FP.Core.val64 b)) = -fz b := FP.Core.zval_negate _ _
  have h := f_sum (FP.Core.val64_fits a) (FP.Core.negate_fits (FP.Core.val64_fits b)) ha (f_neg hb) (by rw [e0, ← Int.sub_eq_add_neg]; exact b1) (by rw [e0, ← Int.sub_eq_add_neg]; exact b2)
  have e : FP.Core.val64 (FP.dsub a b) = _ := FP.Core.val64_dsub a b
  rw [e0, ← Int.sub_eq_add_neg] at h
  unfold FP.Core.DFin
  show (∃ s c q, FP.Core.val64 (FP.dsub a b) = .fin s c q) ∧ FP.Core.zval FP.Core.b64 (FP.Core.val64 (FP.dsub a b)) - _ ≤ fU ∧ _ - FP.Core.zval FP.Core.b64 (FP.Core.val64 (FP.dsub a b)) ≤ fU
  rw [e]
  exact h
theorem f_l2d {x : Int64} (h : x.toInt.natAbs ≤ 2 ^ 53) : FP.Core.DFin (FP.l2d x) ∧ fz (FP.l2d x) = x.toInt * fN := ⟨FP.Core.l2d_fin x, FP.Core.DInt_zval (FP.Core.l2d_int h)⟩
