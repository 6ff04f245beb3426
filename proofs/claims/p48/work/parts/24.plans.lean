/-! PLANS: told for a player, a stage and a view -/
def updN {α : Type} (f : Nat → α) (k : Nat) (v : α) : Nat → α := fun i => if i = k then v else f i
theorem updN_s {α : Type} (f : Nat → α) (k : Nat) (v : α) : updN f k v k = v := if_pos rfl
theorem updN_o {α : Type} {f : Nat → α} {k : Nat} {v : α} {i : Nat} (h : i ≠ k) : updN f k v i = f i := if_neg h
/-- the first from k on that is so; past the end where none is -/
def v_at (q : Nat → Bool) : Nat → Nat → Nat
  | 0, k => k
  | f + 1, k => if q k = true then k else v_at q f (k + 1)
theorem v_at_le (q : Nat → Bool) : ∀ f k, k ≤ v_at q f k ∧ v_at q f k ≤ k + f
  | 0, k => ⟨Nat.le_refl _, Nat.le_refl _⟩
  | f + 1, k => by
    have ih := v_at_le q f (k + 1)
    unfold v_at
    split <;> omega
theorem v_at_is (q : Nat → Bool) : ∀ f k, v_at q f k < k + f → q (v_at q f k) = true
  | 0, k, h => absurd h (Nat.lt_irrefl _)
  | f + 1, k, h => by
    unfold v_at at h ⊢
    by_cases c : q k = true
    · rw [if_pos c]
      exact c
    · rw [if_neg c] at h ⊢
      exact v_at_is q f (k + 1) (by omega)
theorem v_at_not (q : Nat → Bool) : ∀ f k i, k ≤ i → i < v_at q f k → q i = false
  | 0, k, i, h, h2 => absurd h2 (Nat.not_lt.mpr h)
  | f + 1, k, i, h, h2 => by
    unfold v_at at h2
    by_cases c : q k = true
    · rw [if_pos c] at h2
      exact absurd h2 (Nat.not_lt.mpr h)
    · rw [if_neg c] at h2
      by_cases e : i = k
      · subst e
        exact Bool.eq_false_iff.mpr c
      · exact v_at_not q f (k + 1) i (by omega) h2
abbrev v_key (p j v : Nat) : Nat := v * 32 + j * 4 + p
/-- where a plan stands that is told for these -/
abbrev v_pat (np : Nat) (T : Nat → Nat) (p j v : Nat) : Nat := v_at (fun k => decide (T k = v_key p j v)) np 0
/-- what the plans choose -/
def v_chs (np : Nat) (T C B : Nat → Nat) (p j v : Nat) : Nat := if v_pat np T p j v = np ∨ B j ≤ C (v_pat np T p j v) then 0 else C (v_pat np T p j v)
theorem v_chs_lt {np : Nat} {T C B : Nat → Nat} {p j v : Nat} (h : 1 ≤ B j) : v_chs np T C B p j v < B j := by
  unfold v_chs
  split <;> omega
section S24
variable {c n np : Nat} {K P B T C : Nat → Nat} {h h' : AH}
/-- the plans with one told more, where there was room -/
def v_tok (np : Nat) (T : Nat → Nat) (p j v : Nat) : Prop := v_pat np T p j v < 40
abbrev v_tn (np : Nat) (T : Nat → Nat) (p j v : Nat) : Nat := if v_pat np T p j v = np then np + 1 else np
/-- whether the first stages go by plans, but for one player's -/
def v_pl (K P : Nat → Nat) (ch : Nat → Nat → Nat → Nat) (but : Nat) (e : Nat → Nat) : Nat → Bool
  | 0 => true
  | i + 1 => v_pl K P ch but e i && (decide (¬ isChc (K i)) || decide (P i = but) || decide (e i = ch (P i) i (v_view K P (P i) i e i)))
end S24
