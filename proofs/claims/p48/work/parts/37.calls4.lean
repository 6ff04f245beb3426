/-! THE REFERENCE'S CALLS: a plan told, plans drawn -/
section S37
variable {c n np nr : Nat} {K P B T C : Nat → Nat} {h h' : AH}
/-- how many ways look so, the view a word -/
abbrev v_cnt (c : Nat) (K P B : Nat → Nat) (p j : Nat) (v : Int32) : Nat := cntN (fun w => decide ((nI (v_vw c K P B p j w)).toInt64 = v.toInt64)) (v_ways c K B j)
theorem cntN_0 {q : Nat → Bool} : ∀ {m}, cntN q m ≠ 0 → ∃ w, w < m ∧ q w = true
  | 0, h => absurd rfl h
  | m + 1, h => by
    by_cases z : q m = true
    · exact ⟨m, by omega, z⟩
    · have : cntN q (m + 1) = cntN q m + (if q m = true then 1 else 0) := rfl
      rw [if_neg z] at this
      obtain ⟨w, a, b⟩ := cntN_0 (q := q) (m := m) (by omega)
      exact ⟨w, by omega, b⟩
theorem toI64_inj {x y : Int32} (h : x.toInt64 = y.toInt64) : x = y := by
  have := congrArg Int64.toInt h
  rw [Int32.toInt_toInt64, Int32.toInt_toInt64] at this
  exact Int32.toInt.inj this
theorem v_cnt_view {p j : Nat} {v : Int32} (s : okS c n K P B) (hj : j ≤ n) (q : v_cnt c K P B p j v ≠ 0) : ∃ k, v = nI k ∧ k < 524288 := by
  obtain ⟨w, hw, e⟩ := cntN_0 q
  exact ⟨_, (toI64_inj (of_decide_eq_true e)).symm, (v_vw_lt s hj p w).2⟩
abbrev planOk (n : Nat) (K P B : Nat → Nat) (p j x : Int32) : Prop := isPl p ∧ isLt n j ∧ isChc (K (ix j)) ∧ P (ix j) = ix p ∧ isLt (B (ix j)) x
def a_plan (c n : Nat) (K P B : Nat → Nat) (ch : Nat → Nat → Nat → Nat) (np : Nat) (T : Nat → Nat) (p j v x : Int32) : Int32 := if planOk n K P B p j x then (if v_cnt c K P B (ix p) (ix j) v = 0 then -nI 1 else if v_pat np T (ix p) (ix j) (ix v) < 40 then nI (ch (ix p) (ix j) (ix v)) else -nI 4) else -nI 2
abbrev plans' (c n : Nat) (K P B : Nat → Nat) (np : Nat) (T : Nat → Nat) (p j v x : Int32) : Prop := planOk n K P B p j x ∧ v_cnt c K P B (ix p) (ix j) v ≠ 0 ∧ v_pat np T (ix p) (ix j) (ix v) < 40
/-- numbers drawn -/
theorem v_lz_ex : ∃ f : Int32 → Int32, ∀ z, f z = z * nI 1103515245 + nI 12345 := ⟨_, fun _ => rfl⟩
/-- kept shut: the kernel would count the factor out -/
noncomputable def v_lz : Int32 → Int32 := Classical.choose v_lz_ex
theorem v_lz_eq (z : Int32) : v_lz z = z * nI 1103515245 + nI 12345 := Classical.choose_spec v_lz_ex z
def v_l8 (z : Int32) : Nat := z.toUInt32.toNat / 256
theorem v_l8_lt (z : Int32) : v_l8 z < 16777216 := by
  have := z.toUInt32.toNat_lt
  unfold v_l8
  omega
theorem v_l8_is (z : Int32) : (z.toUInt32 >>> ((nI 8).toUInt32 &&& Int32.toUInt32 31)).toInt32 = nI (v_l8 z) := by
  have lt := v_l8_lt z
  have e : (nI 8).toUInt32 &&& Int32.toUInt32 31 = 8 := by decide
  rw [e]
  have e2 : (z.toUInt32 >>> 8).toNat = v_l8 z := by
    rw [UInt32.toNat_shiftRight]
    show z.toUInt32.toNat >>> 8 = _
    rw [Nat.shiftRight_eq_div_pow]
    rfl
  apply Int32.toInt.inj
  rw [nI_toInt (by omega), ← e2]
  exact BitVec.toInt_eq_toNat_of_lt (x := (z.toUInt32 >>> 8).toBitVec) (by show 2 * (z.toUInt32 >>> 8).toNat < 2 ^ 32; omega)
abbrev PS : Type := Int32 × Nat × (Nat → Nat) × (Nat → Nat)
/-- the plans with one more -/
def v_tl (x : PS) (z : Int32) (p j v y : Nat) : PS := (z, v_tn x.2.1 x.2.2.1 p j v, updN x.2.2.1 (v_pat x.2.1 x.2.2.1 p j v) (v_key p j v), updN x.2.2.2 (v_pat x.2.1 x.2.2.1 p j v) y)
/-- plans drawn for a player's sets from t on: whether there was room for all -/
noncomputable def v_lk (c n : Nat) (K P B : Nat → Nat) (p : Nat) : Nat → Nat → PS → Bool × PS
  | 0, _, x => (true, x)
  | f + 1, t, x => if v_pat x.2.1 x.2.2.1 p (v_sJ c n K P B p t) (v_sV c n K P B p t) < 40 then v_lk c n K P B p f (t + 1) (v_tl x (v_lz x.1) p (v_sJ c n K P B p t) (v_sV c n K P B p t) (v_l8 (v_lz x.1) % B (v_sJ c n K P B p t))) else (false, (v_lz x.1, x.2))
/-- for the players from p on -/
noncomputable def v_lp (c n : Nat) (K P B : Nat → Nat) : Nat → Nat → Nat → PS → Int32 × PS
  | 0, _, m, x => (nI m, x)
  | f + 1, p, m, x => if (v_lk c n K P B p (v_sM c n K P B p) 0 x).1 = true then v_lp c n K P B f (p + 1) (m + v_sM c n K P B p) (v_lk c n K P B p (v_sM c n K P B p) 0 x).2 else (-nI 4, (v_lk c n K P B p (v_sM c n K P B p) 0 x).2)
noncomputable abbrev v_lot (c n : Nat) (K P B : Nat → Nat) (np : Nat) (T C : Nat → Nat) (z : Int32) : Int32 × PS := v_lp c n K P B 3 0 0 (z, np, T, C)
end S37
