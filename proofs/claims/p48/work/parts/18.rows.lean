/-! ROWS, more -/
theorem xx_ite {c A B A' B' : Prop} [Decidable c] (hA : A ↔ A') (hB : B ↔ B') : (if c then A else B) ↔ (if c then A' else B') := by
  split
  · exact hA
  · exact hB
section R18
variable {ph : Bool} {d m pc : Nat} {ls st : List Value} {h : AH} {R : Option Value × AH}
theorem xr_zreturn2 {v : Int32} (hd : decode (ax_code m) pc = .ok (.ireturn, 1)) (hr : ax_ret m = some .boolean) : XX ph d m pc ls [.int v] h R ↔ (v = 0 ∨ v = 1) ∧ R = (some (.int v), h) := by
  by_cases hv : v = 0 ∨ v = 1
  · rw [xr_zreturn hd hr hv]; exact ⟨fun q => ⟨hv, q⟩, fun q => q.2⟩
  · rw [xx_stuck hd rfl (by
      simp only [ax_retv]
      rw [if_neg]
      rintro (q | ⟨-, q⟩ | ⟨q, -⟩ | ⟨q, -⟩)
      · rw [hr] at q; cases q
      · exact hv q
      · rw [hr] at q; cases q
      · rw [hr] at q; cases q) rfl]
    exact ⟨False.elim, fun q => absurd q.1 hv⟩
theorem xr_creturn2 {v : Int32} (hd : decode (ax_code m) pc = .ok (.ireturn, 1)) (hr : ax_ret m = some .char) : XX ph d m pc ls [.int v] h R ↔ v.toUInt32.toUInt16.toUInt32.toInt32 = v ∧ R = (some (.int v), h) := by
  by_cases hv : v.toUInt32.toUInt16.toUInt32.toInt32 = v
  · rw [xr_creturn hd hr hv]; exact ⟨fun q => ⟨hv, q⟩, fun q => q.2⟩
  · rw [xx_stuck hd rfl (by
      simp only [ax_retv]
      rw [if_neg]
      rintro (q | ⟨q, -⟩ | ⟨-, q⟩ | ⟨q, -⟩)
      · rw [hr] at q; cases q
      · rw [hr] at q; cases q
      · exact hv q
      · rw [hr] at q; cases q) rfl]
    exact ⟨False.elim, fun q => absurd q.1 hv⟩
theorem xr_breturn2 {v : Int32} (hd : decode (ax_code m) pc = .ok (.ireturn, 1)) (hr : ax_ret m = some .byte) : XX ph d m pc ls [.int v] h R ↔ v.toInt8.toInt32 = v ∧ R = (some (.int v), h) := by
  by_cases hv : v.toInt8.toInt32 = v
  · rw [xr_breturn hd hr hv]; exact ⟨fun q => ⟨hv, q⟩, fun q => q.2⟩
  · rw [xx_stuck hd rfl (by
      simp only [ax_retv]
      rw [if_neg]
      rintro (q | ⟨q, -⟩ | ⟨q, -⟩ | ⟨-, q⟩)
      · rw [hr] at q; cases q
      · rw [hr] at q; cases q
      · rw [hr] at q; cases q
      · exact hv q) rfl]
    exact ⟨False.elim, fun q => absurd q.1 hv⟩
theorem ax_in_lt {i : Int32} {n : Nat} (h : ax_in i n = true) : ix i < n := Nat.not_le.mp fun q => ax_in_inv h (Or.inr q)
end R18
