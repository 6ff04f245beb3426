/-! WORDS: stages, ways, what happened, who sees, views; pure, over numbers -/
def b2i (c : Prop) [Decidable c] : Int32 := if c then nI 1 else nI 0
theorem b2i_t {c : Prop} [Decidable c] (h : c) : b2i c = nI 1 := if_pos h
theorem b2i_f {c : Prop} [Decidable c] (h : ¬ c) : b2i c = nI 0 := if_neg h
theorem b2i_cong {c c' : Prop} [Decidable c] [Decidable c'] (h : c ↔ c') : b2i c = b2i c' := by unfold b2i; simp [h]
-- kinds: 0 deal 1 turn 2 ask 3 veil 4 show 5 forget 6 toss 7 peek
abbrev isCd (k : Nat) : Prop := k = 0 ∨ k = 1
abbrev isChc (k : Nat) : Prop := k = 2 ∨ k = 3
abbrev isCha (k : Nat) : Prop := k = 0 ∨ k = 1 ∨ k = 6 ∨ k = 7
abbrev hasN (k : Nat) : Prop := k = 2 ∨ k = 3 ∨ k = 6 ∨ k = 7
abbrev isSec (k : Nat) : Prop := k = 0 ∨ k = 3 ∨ k = 7
/-- how many cards are out ahead of a stage -/
def v_out (K : Nat → Nat) : Nat → Nat
  | 0 => 0
  | i + 1 => v_out K i + (if isCd (K i) then 1 else 0)
/-- in how many ways a stage goes -/
def v_opt (c : Nat) (K B : Nat → Nat) (i : Nat) : Nat := if isCd (K i) then c - v_out K i else if hasN (K i) then B i else 1
def v_ways (c : Nat) (K B : Nat → Nat) : Nat → Nat
  | 0 => 1
  | j + 1 => v_ways c K B j * v_opt c K B j
def v_chn (c : Nat) (K B : Nat → Nat) : Nat → Nat
  | 0 => 1
  | j + 1 => v_chn c K B j * (if isCha (K j) then v_opt c K B j else 1)
/-- the stages are as they can be -/
def okS (c n : Nat) (K P B : Nat → Nat) : Prop := 1 ≤ c ∧ c ≤ 5 ∧ n ≤ 6 ∧ ∀ i, i < n → K i < 8 ∧ P i < 3 ∧ (hasN (K i) → B i = 2 ∨ B i = 3) ∧ (¬ hasN (K i) → B i = 0) ∧ (isCd (K i) → v_out K i < c)
theorem v_out_le (K : Nat → Nat) : ∀ i, v_out K i ≤ i
  | 0 => Nat.le_refl _
  | i + 1 => by
    have := v_out_le K i
    unfold v_out
    split <;> omega
theorem v_out_c {c n : Nat} {K P B : Nat → Nat} (h : okS c n K P B) : ∀ i, i ≤ n → v_out K i ≤ c
  | 0, _ => Nat.zero_le _
  | i + 1, hi => by
    have h1 := v_out_c h i (by omega)
    have h2 := (h.2.2.2 i (by omega)).2.2.2.2
    unfold v_out
    split
    · rename_i q
      exact h2 q
    · omega
theorem v_opt_pos {c n : Nat} {K P B : Nat → Nat} (h : okS c n K P B) {i : Nat} (hi : i < n) : 1 ≤ v_opt c K B i ∧ v_opt c K B i ≤ 5 := by
  obtain ⟨h1, h2, h3, h4⟩ := h
  obtain ⟨a, b, c1, d, e⟩ := h4 i hi
  unfold v_opt
  split
  · rename_i q
    have := e q
    omega
  · split
    · rename_i q
      have := c1 q
      omega
    · omega
/-- at most 5 * 4 * .. of the cards, 3 each of the others -/
def v_ff : Nat → Nat
  | 0 => 1
  | o + 1 => v_ff o * (5 - o)
theorem v_ways_ff {c n : Nat} {K P B : Nat → Nat} (h : okS c n K P B) : ∀ j, j ≤ n → v_ways c K B j ≤ v_ff (v_out K j) * 3 ^ (j - v_out K j)
  | 0, _ => Nat.le_refl _
  | j + 1, hj => by
    have ih := v_ways_ff h j (by omega)
    obtain ⟨h1, h2, h3, h4⟩ := h
    obtain ⟨a, b, c1, d, e⟩ := h4 j (by omega)
    have hl := v_out_le K j
    unfold v_ways v_opt
    by_cases q : isCd (K j)
    · rw [if_pos q]
      have e1 : v_out K (j + 1) = v_out K j + 1 := by show v_out K j + (if isCd (K j) then 1 else 0) = _; rw [if_pos q]
      rw [e1]
      have e2 : v_ff (v_out K j + 1) = v_ff (v_out K j) * (5 - v_out K j) := rfl
      rw [e2, show j + 1 - (v_out K j + 1) = j - v_out K j by omega]
      calc v_ways c K B j * (c - v_out K j) ≤ (v_ff (v_out K j) * 3 ^ (j - v_out K j)) * (5 - v_out K j) := Nat.mul_le_mul ih (by omega)
        _ = v_ff (v_out K j) * (5 - v_out K j) * 3 ^ (j - v_out K j) := by rw [Nat.mul_right_comm]
    · rw [if_neg q]
      have e1 : v_out K (j + 1) = v_out K j := by show v_out K j + (if isCd (K j) then 1 else 0) = _; rw [if_neg q]; omega
      rw [e1, show j + 1 - v_out K j = (j - v_out K j) + 1 by omega, Nat.pow_succ, ← Nat.mul_assoc]
      refine Nat.mul_le_mul ih ?_
      split
      · rename_i z
        have := c1 z
        omega
      · omega
theorem v_ff_le : ∀ j, j ≤ 6 → ∀ o, o ≤ 5 → o ≤ j → v_ff o * 3 ^ (j - o) ≤ 1620 := by decide +kernel
theorem v_ways_le {c n : Nat} {K P B : Nat → Nat} (h : okS c n K P B) {j : Nat} (hj : j ≤ n) : v_ways c K B j ≤ 1620 := by
  have h1 := v_ways_ff h j hj
  have h2 := v_out_c h j hj
  have h3 := v_out_le K j
  have h4 := h.2.1
  have h5 := h.2.2.1
  exact Nat.le_trans h1 (v_ff_le j (by omega) _ (by omega) h3)
/-- the place of the card that is the d-th (from 0 on) of those that are not gone -/
def v_sel (g : Nat) : Nat → Nat → Nat → Nat
  | 0, c, _ => c
  | f + 1, c, d => if g.testBit c = true then v_sel g f (c + 1) d else if d = 0 then c else v_sel g f (c + 1) (d - 1)
/-- the cards that are gone behind i stages of a way, as bits; what happens in stage i in a way behind it -/
def v_gone (c : Nat) (K B : Nat → Nat) : Nat → Nat → Nat
  | 0, _ => 0
  | i + 1, w => if isCd (K i) then v_gone c K B i (w / v_opt c K B i) ||| 1 <<< (v_sel (v_gone c K B i (w / v_opt c K B i)) 10 0 (w % v_opt c K B i)) else v_gone c K B i (w / v_opt c K B i)
def v_evt (c : Nat) (K B : Nat → Nat) (i w : Nat) : Nat := if isCd (K i) then v_sel (v_gone c K B i (w / v_opt c K B i)) 10 0 (w % v_opt c K B i) else w % v_opt c K B i
/-- what happened in stage i of a way behind j stages -/
def v_what (c : Nat) (K B : Nat → Nat) : Nat → Nat → Nat → Nat
  | 0, _, _ => 0
  | j + 1, w, i => if i = j then v_evt c K B j w else v_what c K B j (w / v_opt c K B j) i
/-- the way's number behind i of its j stages -/
def v_pre (c : Nat) (K B : Nat → Nat) : Nat → Nat → Nat → Nat
  | 0, w, _ => w
  | j + 1, w, i => if i = j + 1 then w else v_pre c K B j (w / v_opt c K B j) i
/-- who sees behind j stages what happened in stage i, bits -/
def v_seen (K P : Nat → Nat) (i : Nat) : Nat → Nat
  | 0 => 0
  | j + 1 => if i = j then (if isSec (K i) then 1 <<< P i else 7) else if K j = 4 ∧ (v_seen K P i j).testBit (P j) = true then 7 else if K j = 5 then (if (v_seen K P i j).testBit (P j) = true then v_seen K P i j - 1 <<< P j else v_seen K P i j) else v_seen K P i j
/-- a player's view behind j stages, e what happened -/
def v_view (K P : Nat → Nat) (p j : Nat) (e : Nat → Nat) : Nat → Nat
  | 0 => 1
  | i + 1 => 8 * v_view K P p j e i + (if (v_seen K P i j).testBit p = true then e i + 1 else 0)
