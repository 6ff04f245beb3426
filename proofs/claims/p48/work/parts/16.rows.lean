/-! ROWS OF THE SMALL MACHINE: an instruction, a row -/
theorem ax_mono {ph : Bool} : ∀ (f d m pc : Nat) (ls st : List Value) (h : AH) (R : Option Value × AH), ax_ex ph f d m pc ls st h = some R → ∀ f' d', f ≤ f' → d ≤ d' → ax_ex ph f' d' m pc ls st h = some R
  | 0, _, _, _, _, _, _, _, hx, _, _, _, _ => by cases hx
  | f + 1, d, m, pc, ls, st, h, R, hx, f', d', hf, hd => by
    obtain ⟨f', rfl⟩ : ∃ g, f' = g + 1 := ⟨f' - 1, by omega⟩
    have hf : f ≤ f' := by omega
    unfold ax_ex at hx ⊢
    split at hx
    · cases hx
    · rename_i i len hdc
      split at hx
      · rename_i pc1 ls1 st1 h1 hs
        split at hx
        · rename_i hlen
          rw [if_pos hlen]
          exact ax_mono f d m pc1 ls1 st1 h1 R hx f' d' hf hd
        · cases hx
      · rename_i hs
        split at hx
        · rename_i r0 hrv
          split at hx
          · rename_i hlen
            try simp only [hrv]
            rw [if_pos hlen]
            exact hx
          · cases hx
        · rename_i hrv
          try simp only [hrv]
          split at hx
          · rename_i as rest hc
            split at hx
            · rename_i hlen
              try simp only [hc]
              rw [if_pos hlen]
              exact ax_mono f d m _ ls rest h R hx f' d' hf hd
            · cases hx
          · rename_i q as rest hc
            split at hx
            · rename_i hlen
              try simp only [hc]
              rw [if_pos hlen]
              split at hx
              · cases hx
              · rename_i d1
                obtain ⟨d', rfl⟩ : ∃ g, d' = g + 1 := ⟨d' - 1, by omega⟩
                split at hx
                · rename_i v h1 hcl
                  have h2 := ax_mono f d1 q 0 _ [] h _ hcl f' d' hf (by omega)
                  simp only [h2]
                  exact ax_mono f (d1 + 1) m _ ls _ h1 R hx f' (d' + 1) hf hd
                · cases hx
            · cases hx
          · cases hx
theorem XX.mono {ph : Bool} {d d' m pc : Nat} {ls st : List Value} {h : AH} {R : Option Value × AH} (hx : XX ph d m pc ls st h R) (hd : d ≤ d') : XX ph d' m pc ls st h R := by
  obtain ⟨f, hf⟩ := hx
  exact ⟨f, ax_mono f d m pc ls st h R hf f d' (Nat.le_refl _) hd⟩
theorem XX.det {ph : Bool} {d d' m pc : Nat} {ls st : List Value} {h : AH} {R R' : Option Value × AH} (h1 : XX ph d m pc ls st h R) (h2 : XX ph d' m pc ls st h R') : R = R' := by
  obtain ⟨f, hf⟩ := h1
  obtain ⟨f', hf'⟩ := h2
  have a := ax_mono f d m pc ls st h R hf (max f f') (max d d') (Nat.le_max_left _ _) (Nat.le_max_left _ _)
  have b := ax_mono f' d' m pc ls st h R' hf' (max f f') (max d d') (Nat.le_max_right _ _) (Nat.le_max_right _ _)
  exact Option.some.inj (a.symm.trans b)
section Rows
variable {ph : Bool} {d m pc : Nat} {ls st : List Value} {h : AH} {R : Option Value × AH}
theorem xx_step {i : Instr} {len pc1 : Nat} {ls1 st1 : List Value} {h1 : AH} (hd : decode (ax_code m) pc = .ok (i, len)) (hs : ax_step ph m i pc ls st h = some (pc1, ls1, st1, h1)) (hl : len = ax_len i ∨ ax_tsw i = true) : XX ph d m pc ls st h R ↔ XX ph d m pc1 ls1 st1 h1 R := by
  constructor
  · rintro ⟨f, hf⟩
    cases f with
    | zero => cases hf
    | succ f =>
      unfold ax_ex at hf
      simp only [hd, hs] at hf
      rw [if_pos hl] at hf
      exact ⟨f, hf⟩
  · rintro ⟨f, hf⟩
    refine ⟨f + 1, ?_⟩
    unfold ax_ex
    simp only [hd, hs]
    rw [if_pos hl]
    exact hf
theorem xx_ret {i : Instr} {len : Nat} {r : Option Value} (hd : decode (ax_code m) pc = .ok (i, len)) (hs : ax_step ph m i pc ls st h = none) (hr : ax_retv m i st = some r) (hl : len = ax_len i) : XX ph d m pc ls st h R ↔ R = (r, h) := by
  constructor
  · rintro ⟨f, hf⟩
    cases f with
    | zero => cases hf
    | succ f =>
      unfold ax_ex at hf
      simp only [hd, hs, hr] at hf
      rw [if_pos hl] at hf
      exact (Option.some.inj hf).symm
  · rintro rfl
    refine ⟨1, ?_⟩
    unfold ax_ex
    simp only [hd, hs, hr]
    rw [if_pos hl]
theorem xx_stuck {i : Instr} {len : Nat} (hd : decode (ax_code m) pc = .ok (i, len)) (hs : ax_step ph m i pc ls st h = none) (hr : ax_retv m i st = none) (hc : ax_callv ph m i st h = none) : XX ph d m pc ls st h R ↔ False := by
  refine ⟨?_, False.elim⟩
  rintro ⟨f, hf⟩
  cases f with
  | zero => cases hf
  | succ f =>
    unfold ax_ex at hf
    simp only [hd, hs, hr, hc] at hf
    cases hf
/-- a call whose run is known -/
theorem xx_call0 {i : Instr} {d1 dq q : Nat} {as rest : List Value} {r : Option Value} {h1 : AH} (hd : decode (ax_code m) pc = .ok (i, 3)) (hs : ax_step ph m i pc ls st h = none) (hr : ax_retv m i st = none) (hc : ax_callv ph m i st h = some (some q, as, rest)) (he : (ax_ent0 as).length ≤ ax_L q) (hdd : d = d1 + 1) (hdq : dq ≤ d1) (hx : XX ph dq q 0 (ax_ent as (ax_L q)) [] h (r, h1)) : XX ph d m pc ls st h R ↔ XX ph d m (pc + 3) ls (r.toList ++ rest) h1 R := by
  subst hdd
  constructor
  · rintro ⟨f, hf⟩
    cases f with
    | zero => cases hf
    | succ f =>
      unfold ax_ex at hf
      simp only [hd, hs, hr, hc] at hf
      rw [if_pos ⟨trivial, he⟩] at hf
      split at hf
      · rename_i v h2 hcl
        have := XX.det hx ⟨f, hcl⟩
        cases this
        exact ⟨f, hf⟩
      · cases hf
  · rintro ⟨f, hf⟩
    obtain ⟨g, hg⟩ := hx
    refine ⟨max f g + 1, ?_⟩
    unfold ax_ex
    simp only [hd, hs, hr, hc]
    rw [if_pos ⟨trivial, he⟩]
    have a := ax_mono g dq q 0 _ [] h _ hg (max f g) d1 (Nat.le_max_right _ _) hdq
    simp only [a]
    exact ax_mono f (d1 + 1) m (pc + 3) ls _ h1 R hf (max f g) (d1 + 1) (Nat.le_max_left _ _) (Nat.le_refl _)
theorem xx_obj {k n q : Nat} {rest : List Value} {a : Nat} (hd : decode (ax_code m) pc = .ok (.invokespecial k, 3)) (hc : ax_cal (ax_own m) k = some (4, q, n)) (hw : ax_wt rest ≤ 8) (ha : 64 ≤ a) : XX ph d m pc ls (.ref a :: rest) h R ↔ XX ph d m (pc + 3) ls rest h R := by
  have hcv : ax_callv ph m (.invokespecial k) (.ref a :: rest) h = some (none, [], rest) := by
    simp only [ax_callv, hc]
    rw [if_pos ⟨hw, ha⟩]
  have hs : ax_step ph m (.invokespecial k) pc ls (.ref a :: rest) h = none := rfl
  have hr : ax_retv m (.invokespecial k) (.ref a :: rest) = none := rfl
  constructor
  · rintro ⟨f, hf⟩
    cases f with
    | zero => cases hf
    | succ f =>
      unfold ax_ex at hf
      simp only [hd, hs, hr, hcv] at hf
      rw [if_pos trivial] at hf
      exact ⟨f, hf⟩
  · rintro ⟨f, hf⟩
    refine ⟨f + 1, ?_⟩
    unfold ax_ex
    simp only [hd, hs, hr, hcv]
    rw [if_pos trivial]
    exact hf
end Rows
