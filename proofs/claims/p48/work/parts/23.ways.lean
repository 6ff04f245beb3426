/-! WAYS: how many, what happened, who sees, views -/
theorem v_pre_self (c : Nat) (K B : Nat → Nat) : ∀ j w, v_pre c K B j w j = w
  | 0, _ => rfl
  | j + 1, w => if_pos rfl
theorem v_pre_step (c : Nat) (K B : Nat → Nat) : ∀ j w i, i < j → v_pre c K B j w i = v_pre c K B j w (i + 1) / v_opt c K B i
  | 0, _, _, h => absurd h (Nat.not_lt_zero _)
  | j + 1, w, i, h => by
    show (if i = j + 1 then w else v_pre c K B j (w / v_opt c K B j) i) = (if i + 1 = j + 1 then w else v_pre c K B j (w / v_opt c K B j) (i + 1)) / _
    rw [if_neg (by omega)]
    by_cases q : i = j
    · subst q
      rw [if_pos rfl, v_pre_self]
    · rw [if_neg (by omega)]
      exact v_pre_step c K B j _ i (by omega)
theorem v_what_pre (c : Nat) (K B : Nat → Nat) : ∀ j w i, i < j → v_what c K B j w i = v_evt c K B i (v_pre c K B j w (i + 1))
  | 0, _, _, h => absurd h (Nat.not_lt_zero _)
  | j + 1, w, i, h => by
    show (if i = j then v_evt c K B j w else v_what c K B j (w / v_opt c K B j) i) = v_evt c K B i (if i + 1 = j + 1 then w else v_pre c K B j (w / v_opt c K B j) (i + 1))
    by_cases q : i = j
    · subst q
      rw [if_pos rfl, if_pos rfl]
    · rw [if_neg q, if_neg (by omega)]
      exact v_what_pre c K B j _ i (by omega)
/-- behind some stages: the same with fewer -/
theorem v_pre_pre (c : Nat) (K B : Nat → Nat) (j w : Nat) : ∀ k i, i + k ≤ j → v_pre c K B (i + k) (v_pre c K B j w (i + k)) i = v_pre c K B j w i
  | 0, i, _ => v_pre_self c K B i _
  | k + 1, i, h => by
    show (if i = i + k + 1 then _ else v_pre c K B (i + k) (v_pre c K B j w (i + k + 1) / v_opt c K B (i + k)) i) = _
    rw [if_neg (by omega), ← v_pre_step c K B j w (i + k) (by omega)]
    exact v_pre_pre c K B j w k i (by omega)
theorem v_pre_lt {c n : Nat} {K P B : Nat → Nat} (ok : okS c n K P B) {j w : Nat} (hj : j ≤ n) (hw : w < v_ways c K B j) : ∀ k i, i + k = j → v_pre c K B j w i < v_ways c K B i
  | 0, i, h => by
    obtain rfl : i = j := by omega
    rw [v_pre_self]
    exact hw
  | k + 1, i, h => by
    have ih := v_pre_lt ok hj hw k (i + 1) (by omega)
    rw [v_pre_step c K B j w i (by omega)]
    exact Nat.div_lt_of_lt_mul (by rw [Nat.mul_comm]; exact ih)
/-- cards that are gone, as bits -/
def v_pc (g : Nat) : Nat := g % 2 + g / 2 % 2 + g / 4 % 2 + g / 8 % 2 + g / 16 % 2
def v_selok (g : Nat) : Nat → Nat → Nat → Bool
  | 0, _, _ => false
  | f + 1, c, d => if g.testBit c = true then v_selok g f (c + 1) d else if d = 0 then true else v_selok g f (c + 1) (d - 1)
theorem v_selok_all : ∀ g, g < 32 → ∀ d, d < 5 → v_selok g 10 0 d = true := by decide +kernel
theorem v_sel_all : ∀ c, c < 6 → ∀ g, g < 2 ^ c → ∀ d, d < c - v_pc g → v_sel g 10 0 d < c ∧ g ||| 1 <<< (v_sel g 10 0 d) < 2 ^ c ∧ v_pc (g ||| 1 <<< (v_sel g 10 0 d)) = v_pc g + 1 := by decide +kernel
theorem v_gone_ok {c n : Nat} {K P B : Nat → Nat} (ok : okS c n K P B) : ∀ i w, i ≤ n → v_gone c K B i w < 2 ^ c ∧ v_pc (v_gone c K B i w) = v_out K i
  | 0, w, _ => ⟨Nat.two_pow_pos _, by show v_pc 0 = 0; decide⟩
  | i + 1, w, h => by
    have ih := v_gone_ok ok i (w / v_opt c K B i) (by omega)
    have hc := (ok.2.2.2 i (by omega)).2.2.2.2
    show (if isCd (K i) then _ else _) < _ ∧ v_pc (if isCd (K i) then _ else _) = v_out K i + (if isCd (K i) then 1 else 0)
    by_cases q : isCd (K i)
    · rw [if_pos q, if_pos q]
      have e : v_opt c K B i = c - v_out K i := if_pos q
      have hm : w % v_opt c K B i < c - v_pc (v_gone c K B i (w / v_opt c K B i)) := by
        rw [ih.2, e]
        exact Nat.mod_lt _ (by have := hc q; omega)
      have := v_sel_all c (by have := ok.2.1; omega) _ ih.1 _ hm
      exact ⟨this.2.1, by rw [this.2.2, ih.2]⟩
    · rw [if_neg q, if_neg q]
      exact ih
theorem v_evt_card {c n : Nat} {K P B : Nat → Nat} (ok : okS c n K P B) {i : Nat} (hi : i < n) (q : isCd (K i)) (w : Nat) : v_evt c K B i w < c ∧ v_selok (v_gone c K B i (w / v_opt c K B i)) 10 0 (w % v_opt c K B i) = true := by
  have ih := v_gone_ok ok i (w / v_opt c K B i) (by omega)
  have hc := (ok.2.2.2 i (by omega)).2.2.2.2 q
  have h5 := ok.2.1
  have e : v_opt c K B i = c - v_out K i := if_pos q
  have hm : w % v_opt c K B i < c - v_out K i := by
    rw [e]
    exact Nat.mod_lt _ (by omega)
  have hm' : w % v_opt c K B i < c - v_pc (v_gone c K B i (w / v_opt c K B i)) := by
    rw [ih.2]
    exact hm
  have hp : 2 ^ c ≤ 32 := Nat.le_trans (Nat.pow_le_pow_right (by decide) h5) (by decide)
  unfold v_evt
  rw [if_pos q]
  exact ⟨(v_sel_all c (by omega) _ ih.1 _ hm').1, v_selok_all _ (Nat.lt_of_lt_of_le ih.1 hp) _ (by omega)⟩
theorem v_evt_lt {c n : Nat} {K P B : Nat → Nat} (ok : okS c n K P B) {i : Nat} (hi : i < n) (w : Nat) : v_evt c K B i w < 5 := by
  by_cases q : isCd (K i)
  · exact Nat.lt_of_lt_of_le (v_evt_card ok hi q w).1 ok.2.1
  · unfold v_evt
    rw [if_neg q]
    have h1 := v_opt_pos ok hi
    have h2 := Nat.mod_lt w h1.1
    omega
theorem v_what_lt {c n : Nat} {K P B : Nat → Nat} (ok : okS c n K P B) {j : Nat} (hj : j ≤ n) (w : Nat) {i : Nat} (hi : i < j) : v_what c K B j w i < 5 := by
  rw [v_what_pre c K B j w i hi]
  exact v_evt_lt ok (by omega) _
theorem v_bit : ∀ g, g < 32 → ∀ c, c < 10 → ((nI g >>> (nI c &&& 31)) &&& nI 1) = if g.testBit c = true then nI 1 else nI 0 := by decide +kernel
theorem v_orb : ∀ g, g < 32 → ∀ c, c < 5 → (nI g ||| (nI 1 <<< (nI c &&& 31))) = nI (g ||| 1 <<< c) := by decide +kernel
section S23
variable {c n : Nat} {K P B : Nat → Nat} {h h' : AH}
theorem v_see1 : ∀ p, p < 3 → (nI 1 <<< (nI p &&& 31)) = nI (1 <<< p) := by decide
theorem v_see2 : ∀ g, g < 8 → ∀ p, p < 3 → ((nI g &&& nI (1 <<< p)) = nI 0 ↔ ¬ g.testBit p = true) := by decide +kernel
theorem v_see3 : ∀ g, g < 8 → ∀ p, p < 3 → (nI g &&& (nI (1 <<< p) ^^^ -nI 1)) = nI (if g.testBit p = true then g - 1 <<< p else g) := by decide +kernel
theorem v_see4 : ∀ g, g < 8 → ∀ p, p < 3 → (if g.testBit p = true then g - 1 <<< p else g) < 8 := by decide +kernel
theorem v_see5 : ∀ p, p < 3 → 1 <<< p < 8 := by decide
theorem v_seen_lt {K P : Nat → Nat} {i : Nat} : ∀ j, (∀ i, i < j → P i < 3) → v_seen K P i j < 8
  | 0, _ => by show 0 < 8; decide
  | j + 1, h => by
    have ih := v_seen_lt (K := K) (i := i) j (fun a ha => h a (by omega))
    show (if i = j then (if isSec (K i) then 1 <<< P i else 7) else if K j = 4 ∧ (v_seen K P i j).testBit (P j) = true then 7 else if K j = 5 then (if (v_seen K P i j).testBit (P j) = true then v_seen K P i j - 1 <<< P j else v_seen K P i j) else v_seen K P i j) < 8
    split
    · rename_i q
      split
      · exact v_see5 _ (h i (by omega))
      · decide
    · split
      · decide
      · split
        · exact v_see4 _ ih _ (h j (by omega))
        · exact ih
theorem v_seen_step {K P : Nat → Nat} {i j : Nat} (h : i < j) : v_seen K P i (j + 1) = if K j = 4 ∧ (v_seen K P i j).testBit (P j) = true then 7 else if K j = 5 then (if (v_seen K P i j).testBit (P j) = true then v_seen K P i j - 1 <<< P j else v_seen K P i j) else v_seen K P i j := by
  show (if i = j then _ else _) = _
  rw [if_neg (by omega)]
theorem v_vbit : ∀ g, g < 8 → ∀ p, p < 3 → ((nI g >>> (nI p &&& 31)) &&& nI 1) = if g.testBit p = true then nI 1 else nI 0 := by decide +kernel
theorem v_view_lt {K P : Nat → Nat} {p j : Nat} {e : Nat → Nat} : ∀ i, (∀ a, a < i → e a < 5) → 1 ≤ v_view K P p j e i ∧ v_view K P p j e i < 2 * 8 ^ i
  | 0, _ => ⟨Nat.le_refl _, by show 1 < 2; decide⟩
  | i + 1, h => by
    have ih := v_view_lt (K := K) (P := P) (p := p) (j := j) i (fun a ha => h a (by omega))
    have h1 := h i (by omega)
    have h2 : (if (v_seen K P i j).testBit p = true then e i + 1 else 0) ≤ 5 := by split <;> omega
    show 1 ≤ 8 * v_view K P p j e i + (if (v_seen K P i j).testBit p = true then e i + 1 else 0) ∧ 8 * v_view K P p j e i + (if (v_seen K P i j).testBit p = true then e i + 1 else 0) < _
    rw [Nat.pow_succ]
    omega
/-- the view of a way behind j stages -/
abbrev v_vw (c : Nat) (K P B : Nat → Nat) (p j w : Nat) : Nat := v_view K P p j (v_what c K B j w) j
theorem v_vw_lt (s : okS c n K P B) {j : Nat} (hj : j ≤ n) (p w : Nat) : 1 ≤ v_vw c K P B p j w ∧ v_vw c K P B p j w < 524288 := by
  have h6 := s.2.2.1
  have h1 := v_view_lt (K := K) (P := P) (p := p) (j := j) (e := v_what c K B j w) j (fun a ha => v_what_lt s hj w ha)
  have : 8 ^ j ≤ 8 ^ 6 := Nat.pow_le_pow_right (by decide) (by omega)
  exact ⟨h1.1, by have := h1.2; show v_view K P p j (v_what c K B j w) j < _; omega⟩
/-- how many of the first are so -/
def cntN (q : Nat → Bool) : Nat → Nat
  | 0 => 0
  | m + 1 => cntN q m + (if q m = true then 1 else 0)
theorem cntN_le (q : Nat → Bool) : ∀ m, cntN q m ≤ m
  | 0 => Nat.le_refl _
  | m + 1 => by
    have := cntN_le q m
    show cntN q m + (if q m = true then 1 else 0) ≤ _
    split <;> omega
theorem v_chn_le (s : okS c n K P B) : ∀ j, j ≤ n → 1 ≤ v_chn c K B j ∧ v_chn c K B j ≤ v_ways c K B j
  | 0, _ => ⟨Nat.le_refl _, Nat.le_refl _⟩
  | j + 1, hj => by
    have ih := v_chn_le s j (by omega)
    have op := v_opt_pos s (i := j) (by omega)
    show 1 ≤ v_chn c K B j * (if isCha (K j) then v_opt c K B j else 1) ∧ v_chn c K B j * (if isCha (K j) then v_opt c K B j else 1) ≤ v_ways c K B j * v_opt c K B j
    have h1 : 1 ≤ (if isCha (K j) then v_opt c K B j else 1) ∧ (if isCha (K j) then v_opt c K B j else 1) ≤ v_opt c K B j := by split <;> omega
    exact ⟨Nat.mul_pos ih.1 h1.1, Nat.mul_le_mul ih.2 h1.2⟩
end S23
