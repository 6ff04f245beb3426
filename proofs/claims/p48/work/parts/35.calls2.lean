/-! THE REFERENCE'S CALLS: the pack, stages put and dropped -/
theorem hI_wr (h : AH) (a j : Nat) (v : Int32) (b k : Nat) : hI (ax_wr h a j (.int v)) b k = if b = a ∧ k = j then v else hI h b k := by
  by_cases q : b = a ∧ k = j
  · rw [if_pos q, q.1, q.2, wr_I]
  · rw [if_neg q, wr_In q]
theorem v_out_congr {K K' : Nat → Nat} : ∀ i, (∀ a, a < i → K a = K' a) → v_out K i = v_out K' i
  | 0, _ => rfl
  | i + 1, h => by
    show v_out K i + (if isCd (K i) then 1 else 0) = v_out K' i + (if isCd (K' i) then 1 else 0)
    rw [v_out_congr i (fun a ha => h a (by omega)), h i (by omega)]
/-- a stage as it can be -/
def okT (k p b : Nat) : Prop := k < 8 ∧ p < 3 ∧ (hasN k → b = 2 ∨ b = 3) ∧ (¬ hasN k → b = 0)
theorem okS.put {c n : Nat} {K P B : Nat → Nat} (s : okS c n K P B) (hn : n < 6) {k p b : Nat} (o : okT k p b) (hc : isCd k → v_out K n < c) : okS c (n + 1) (updN K n k) (updN P n p) (updN B n b) := by
  refine ⟨s.1, s.2.1, by omega, fun i hi => ?_⟩
  have e : ∀ i, i ≤ n → v_out (updN K n k) i = v_out K i := fun i hi => v_out_congr i (fun a ha => updN_o (by omega))
  rw [e i (by omega)]
  by_cases q : i = n
  · rw [q, updN_s, updN_s, updN_s]
    exact ⟨o.1, o.2.1, o.2.2.1, o.2.2.2, hc⟩
  · rw [updN_o q, updN_o q, updN_o q]
    exact s.2.2.2 i (by omega)
def updZ (f : Nat → Int) (k : Nat) (v : Int) : Nat → Int := fun i => if i = k then v else f i
section S35
variable {c n np nr : Nat} {K P B T C : Nat → Nat} {W : Nat → Int} {h h' : AH}
/-- whether a stage is told rightly -/
abbrev told (k p b : Int32) : Prop := isLe 7 k ∧ (if k = nI 1 ∨ k = nI 6 then p = nI 0 else isPl p) ∧ (if hasN (ix k) then nI 2 ≤ b ∧ b ≤ nI 3 else b = nI 0)
theorem told.ex {k p b : Int32} (t : told k p b) : ∃ k' p' b', k = nI k' ∧ p = nI p' ∧ b = nI b' ∧ okT k' p' b' := by
  obtain ⟨t1, t2, t3⟩ := t
  obtain ⟨k', hk, rfl⟩ := t1.ex (by decide)
  rw [ix_nI (by omega)] at t3
  have e2 : ∃ p', p = nI p' ∧ p' < 3 := by
    by_cases q : nI k' = nI 1 ∨ nI k' = nI 6
    · rw [if_pos q] at t2
      exact ⟨0, t2, by decide⟩
    · rw [if_neg q] at t2
      obtain ⟨p', hp, e⟩ := t2.ex
      exact ⟨p', e, hp⟩
  obtain ⟨p', rfl, hp⟩ := e2
  by_cases q : hasN k'
  · rw [if_pos q] at t3
    have z : nI 0 ≤ b := Int32.le_trans (by decide) t3.1
    obtain ⟨b', hb, rfl⟩ := nI_of3 (by decide) z t3.2
    have := (nI_leI (by omega) (by omega)).mp t3.1
    exact ⟨k', p', b', rfl, rfl, rfl, by omega, hp, fun _ => by omega, fun y => absurd q y⟩
  · rw [if_neg q] at t3
    exact ⟨k', p', 0, rfl, rfl, t3, by omega, hp, fun y => absurd y q, fun _ => rfl⟩
def a_stage (c n : Nat) (K : Nat → Nat) (k p b : Int32) : Int32 := if told k p b then (if n = 6 then -nI 4 else if isCd (ix k) → v_out K n < c then nI n else -nI 3) else -nI 2
abbrev puts (c n : Nat) (K : Nat → Nat) (k p b : Int32) : Prop := told k p b ∧ n ≠ 6 ∧ (isCd (ix k) → v_out K n < c)
def a_pack (c : Nat) (m : Int32) : Int32 := if nI 1 ≤ m ∧ m ≤ nI 5 then nI c else -nI 2
def a_worth (c : Nat) (W : Nat → Int) (i v : Int32) : Int32 := if isLt c i ∧ -nI 9 ≤ v ∧ v ≤ nI 9 then iI (W (ix i)) else -nI 2
end S35
