/-! AMOUNTS, pay, sums over ways -/
section S26
variable {c n np nr fm : Nat} {K P B T C : Nat → Nat} {U : Nat → Nat → Nat} {V W : Nat → Int} {h h' : AH}
/-- what a player gets by the first rules -/
def v_pay (U : Nat → Nat → Nat) (V W : Nat → Int) (c n : Nat) (e : Nat → Nat) (p : Nat) : Nat → Int
  | 0 => 0
  | i + 1 => v_pay U V W c n e p i + (if U i 4 = p then (if v_so U n e 9 i = true then v_am U V W c n e 9 i else 0) else if U i 3 = p then (if v_so U n e 9 i = true then -v_am U V W c n e 9 i else 0) else 0)
theorem v_pay_le {e : Nat → Nat} (r : okR nr U V) (w : ∀ i, i < 5 → -9 ≤ W i ∧ W i ≤ 9) (he : ∀ i, i < n → e i < 5) (hc : c ≤ 5) (p : Nat) : ∀ m : Nat, m ≤ nr → -(1782 * m : Int) ≤ v_pay U V W c n e p m ∧ v_pay U V W c n e p m ≤ 1782 * m
  | 0, _ => by show -(1782 * ((0 : Nat) : Int)) ≤ 0 ∧ 0 ≤ 1782 * ((0 : Nat) : Int); omega
  | m + 1, hm => by
    have ih := v_pay_le r w he hc p m (by omega)
    have a := v_am_le (n := n) (c := c) (e := e) r w he hc 9 m (by omega)
    show _ ≤ v_pay U V W c n e p m + (if U m 4 = p then (if v_so U n e 9 m = true then v_am U V W c n e 9 m else 0) else if U m 3 = p then (if v_so U n e 9 m = true then -v_am U V W c n e 9 m else 0) else 0) ∧ v_pay U V W c n e p m + (if U m 4 = p then (if v_so U n e 9 m = true then v_am U V W c n e 9 m else 0) else if U m 3 = p then (if v_so U n e 9 m = true then -v_am U V W c n e 9 m else 0) else 0) ≤ _
    repeat' split
    all_goals omega
/-- the sum over the first ways -/
def sumZ (f : Nat → Int) : Nat → Int
  | 0 => 0
  | m + 1 => sumZ f m + f m
theorem sumZ_le {f : Nat → Int} {b : Nat} (hf : ∀ i, -(b : Int) ≤ f i ∧ f i ≤ b) : ∀ m : Nat, -((b * m : Nat) : Int) ≤ sumZ f m ∧ sumZ f m ≤ ((b * m : Nat) : Int)
  | 0 => by show -((b * 0 : Nat) : Int) ≤ 0 ∧ 0 ≤ ((b * 0 : Nat) : Int); omega
  | m + 1 => by
    have ih := sumZ_le hf m
    have h1 := hf m
    show _ ≤ sumZ f m + f m ∧ sumZ f m + f m ≤ _
    rw [Nat.mul_succ]
    omega
/-- what a player gets in all ways that go by plans -/
abbrev v_sumf (c n : Nat) (K P B : Nat → Nat) (ch : Nat → Nat → Nat → Nat) (U : Nat → Nat → Nat) (V W : Nat → Int) (nr but p : Nat) (w : Nat) : Int := if v_pl K P ch but (v_what c K B n w) n = true then v_pay U V W c n (v_what c K B n w) p nr else 0
theorem v_sumf_le (s : okS c n K P B) (r : okR nr U V) (w : ∀ i, i < 5 → -9 ≤ W i ∧ W i ≤ 9) (ch : Nat → Nat → Nat → Nat) (but p i : Nat) : -((14256 : Nat) : Int) ≤ v_sumf c n K P B ch U V W nr but p i ∧ v_sumf c n K P B ch U V W nr but p i ≤ ((14256 : Nat) : Int) := by
  have h1 := v_pay_le (n := n) (c := c) (e := v_what c K B n i) r w (fun a ha => v_what_lt s (Nat.le_refl _) i ha) s.2.1 p nr (Nat.le_refl _)
  have h8 := r.1
  unfold v_sumf
  split <;> omega
end S26
