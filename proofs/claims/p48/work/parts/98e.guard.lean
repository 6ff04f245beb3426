/-! A GUARDED RUN, AND THE SAME RUN WITH ANY SCRIPT -/
def ax_exG (ph : Bool) : Nat → Nat → Nat → Nat → List Value → List Value → AH → Option (Option Value × AH)
  | 0, _, _, _, _, _, _ => none
  | f + 1, d, m, pc, ls, st, h => if st.all no48 = true then (match decode (ax_code m) pc with
    | .error _ => none
    | .ok (i, len) => match ax_step ph m i pc ls st h with
      | some (pc1, ls1, st1, h1) => if len = ax_len i ∨ ax_tsw i = true then ax_exG ph f d m pc1 ls1 st1 h1 else none
      | none => match ax_retv m i st with
        | some r => if len = ax_len i then some (r, h) else none
        | none => match ax_callv ph m i st h with
          | some (none, _, r) => if len = 3 then ax_exG ph f d m (pc + 3) ls r h else none
          | some (some q, as, r) => if len = 3 ∧ (ax_ent0 as).length ≤ ax_L q then (match d with
            | 0 => none
            | d1 + 1 => match ax_exG ph f d1 q 0 (ax_ent as (ax_L q)) [] h with
              | some (v, h1) => ax_exG ph f d m (pc + 3) ls (v.toList ++ r) h1
              | none => none) else none
          | none => none) else none
section S98e
variable {ph : Bool} {g : Nat → Value} {L : Nat}
theorem all_drop {st : List Value} (h : st.all no48 = true) : ∀ n, (st.drop n).all no48 = true := by
  intro n
  rw [List.all_eq_true] at h ⊢
  exact fun x hx => h x (List.mem_of_mem_drop hx)
theorem psi_callv {m : Nat} {i : Instr} {st : List Value} {h : AH} (hg : st.all no48 = true) : ax_callv ph m i st (psi g L h) = ax_callv ph m i st h := by
  cases i
  case invokevirtual k =>
    simp only [ax_callv]
    split
    · rename_i q n e
      have hd := all_drop hg n
      split
      · rename_i a r e2
        rw [e2] at hd
        rw [psi_ty (n48 hd)]
        rfl
      · rfl
    · rfl
  all_goals rfl
theorem psi_ex : ∀ (f d m pc : Nat) (ls st : List Value) (h : AH) (r : Option Value) (h9 : AH), ax_exG ph f d m pc ls st h = some (r, h9) → ax_ex ph f d m pc ls st (psi g L h) = some (r, psi g L h9)
  | 0, _, _, _, _, _, _, _, _, hx => by cases hx
  | f + 1, d, m, pc, ls, st, h, r, h9, hx => by
    unfold ax_exG at hx
    unfold ax_ex
    split at hx
    · rename_i hg
      split at hx
      · cases hx
      · rename_i i len hdc
        rw [hdc]
        simp only []
        rw [psi_step hg, psi_callv hg]
        split at hx
        · rename_i pc1 ls1 st1 h1 hs
          rw [hs]
          show (if len = ax_len i ∨ ax_tsw i = true then ax_ex ph f d m pc1 ls1 st1 (psi g L h1) else none) = _
          split at hx
          · rename_i hl
            rw [if_pos hl]
            exact psi_ex f d m pc1 ls1 st1 h1 r h9 hx
          · cases hx
        · rename_i hs
          rw [hs]
          simp only [Option.map_none]
          split at hx
          · rename_i r0 hr
            rw [hr]
            simp only []
            split at hx
            · rename_i hl
              rw [if_pos hl]
              cases hx
              rfl
            · cases hx
          · rename_i hr
            rw [hr]
            simp only []
            split at hx
            · rename_i as rest hc
              rw [hc]
              simp only []
              split at hx
              · rename_i hl
                rw [if_pos hl]
                exact psi_ex f d m (pc + 3) ls rest h r h9 hx
              · cases hx
            · rename_i q as rest hc
              rw [hc]
              simp only []
              split at hx
              · rename_i hl
                rw [if_pos hl]
                split at hx
                · cases hx
                · rename_i d1
                  split at hx
                  · rename_i v h1 hcl
                    simp only []
                    rw [psi_ex f d1 q 0 _ [] h v h1 hcl]
                    exact psi_ex f (d1 + 1) m (pc + 3) ls _ h1 r h9 hx
                  · cases hx
              · cases hx
            · cases hx
    · cases hx
end S98e
