/-! NUMBERS with signs; the greatest common divisor; whether a product fits -/
abbrev iI (z : Int) : Int32 := Int32.ofInt z
abbrev lI (z : Int) : Int64 := Int64.ofInt z
theorem nI_iI (n : Nat) : nI n = iI (n : Int) := Int32.ofInt_eq_ofNat.symm
theorem lN_lI (n : Nat) : lN n = lI (n : Int) := Int64.ofInt_eq_ofNat.symm
theorem iI_add (a b : Int) : iI a + iI b = iI (a + b) := (Int32.ofInt_add a b).symm
theorem iI_sub (a b : Int) : iI a - iI b = iI (a - b) := (Int32.ofInt_sub a b).symm
theorem iI_mul (a b : Int) : iI a * iI b = iI (a * b) := (Int32.ofInt_mul a b).symm
theorem iI_toInt {z : Int} (h : -2147483648 ≤ z) (h2 : z < 2147483648) : (iI z).toInt = z := Int32.toInt_ofInt_of_le (by omega) (by omega)
theorem lI_toInt {z : Int} (h : -9223372036854775808 ≤ z) (h2 : z < 9223372036854775808) : (lI z).toInt = z := Int64.toInt_ofInt_of_le (by omega) (by omega)
theorem iI_l {z : Int} (h : -2147483648 ≤ z) (h2 : z < 2147483648) : (iI z).toInt64 = lI z := Int32.toInt64_ofInt (by rw [show Int32.minValue.toInt = -2147483648 by decide]; exact h) (by rw [show Int32.maxValue.toInt = 2147483647 by decide]; omega)
abbrev v_fit (a : Int64) (s : Nat) : Prop := -9223372036854775808 ≤ a.toInt * s ∧ a.toInt * s < 9223372036854775808
/-! RULES: tests, amounts, pay -/
/-- whether a rule's test is so -/
def v_so (U : Nat → Nat → Nat) (n : Nat) (e : Nat → Nat) : Nat → Nat → Bool
  | 0, _ => false
  | f + 1, i => if U i 0 = 0 then true else if U i 0 = 1 then decide (U i 1 < n ∧ U i 2 < n ∧ e (U i 1) = e (U i 2)) else if U i 0 = 2 then decide (U i 1 < n ∧ U i 2 < n ∧ e (U i 2) < e (U i 1)) else if U i 0 = 3 then decide (U i 1 < n ∧ U i 2 < n ∧ (e (U i 1) + e (U i 2)) % 2 = 0) else decide (U i 1 < i) && !(v_so U n e f (U i 1))
/-- a rule's amount -/
def v_am (U : Nat → Nat → Nat) (V W : Nat → Int) (c n : Nat) (e : Nat → Nat) : Nat → Nat → Int
  | 0, _ => 0
  | f + 1, i => if U i 5 = 0 then V i else if U i 5 = 1 then (if U i 1 < n ∧ e (U i 1) < c then V i * W (e (U i 1)) else 0) else if U i 5 = 2 then (if U i 1 < n ∧ U i 2 < n then V i * ((e (U i 1) : Int) - e (U i 2)) else 0) else if U i 5 = 3 then (if U i 1 < i then v_am U V W c n e f (U i 1) + V i else 0) else (if U i 1 < n then (if e (U i 1) = 0 then 2 * V i else V i) else 0)
/-- rules as they can be -/
def okR (nr : Nat) (U : Nat → Nat → Nat) (V : Nat → Int) : Prop := nr ≤ 8 ∧ ∀ i, i < nr → U i 0 < 5 ∧ U i 1 < 8 ∧ U i 2 < 8 ∧ U i 3 < 3 ∧ U i 4 < 3 ∧ U i 3 ≠ U i 4 ∧ U i 5 < 5 ∧ -99 ≤ V i ∧ V i ≤ 99
/-- a row of rules lies there -/
def rwR (a fm nr : Nat) (U : Nat → Nat → Nat) (V : Nat → Int) (h : AH) : Prop := okR nr U V ∧ ∀ i, i < nr → (∀ f, f < 6 → hI h a (fm + 7 * i + f) = nI (U i f)) ∧ hI h a (fm + 7 * i + 6) = iI (V i)
theorem rwR.fr {a fm nr : Nat} {U : Nat → Nat → Nat} {V : Nat → Int} {h h' : AH} (s : rwR a fm nr U V h) {L : List (Nat × Option Nat)} (f : fr L h h') (q : ∀ j, inS L a j = false) : rwR a fm nr U V h' := ⟨s.1, fun i hi => ⟨fun k hk => (f.I (q _)).trans ((s.2 i hi).1 k hk), (f.I (q _)).trans (s.2 i hi).2⟩⟩
theorem mul_bd {a b : Int} {A B : Nat} (ha : -(A : Int) ≤ a ∧ a ≤ A) (hb : -(B : Int) ≤ b ∧ b ≤ B) : -((A * B : Nat) : Int) ≤ a * b ∧ a * b ≤ ((A * B : Nat) : Int) := by
  have h1 : (a * b).natAbs ≤ A * B := by
    rw [Int.natAbs_mul]
    exact Nat.mul_le_mul (by omega) (by omega)
  omega
section S25
variable {c n np nr : Nat} {K P B T C : Nat → Nat} {U : Nat → Nat → Nat} {V W : Nat → Int} {h h' : AH}
theorem v_am_le {e : Nat → Nat} (r : okR nr U V) (w : ∀ i, i < 5 → -9 ≤ W i ∧ W i ≤ 9) (he : ∀ i, i < n → e i < 5) (hc : c ≤ 5) : ∀ (f i : Nat), i < nr → -(891 + 99 * f : Int) ≤ v_am U V W c n e f i ∧ v_am U V W c n e f i ≤ 891 + 99 * f
  | 0, i, _ => by show -(891 + 99 * ((0 : Nat) : Int)) ≤ 0 ∧ 0 ≤ 891 + 99 * ((0 : Nat) : Int); omega
  | f + 1, i, hi => by
    obtain ⟨a0, a1, a2, a3, a4, a5, a6, v1, v2⟩ := r.2 i hi
    unfold v_am
    split
    · omega
    · split
      · split
        · rename_i q
          have w1 := w (e (U i 1)) (by omega)
          have := mul_bd (a := V i) (b := W (e (U i 1))) (A := 99) (B := 9) (by omega) (by omega)
          omega
        · omega
      · split
        · split
          · rename_i q
            have e1 := he _ q.1
            have e2 := he _ q.2
            have := mul_bd (a := V i) (b := (e (U i 1) : Int) - e (U i 2)) (A := 99) (B := 4) (by omega) (by omega)
            omega
          · omega
        · split
          · split
            · rename_i q
              have ih := v_am_le r w he hc f (U i 1) (by omega)
              omega
            · omega
          · split
            · split <;> omega
            · omega
end S25
