/-! THE WHOLE LAW IN THE SMALL MACHINE -/
section S94
variable {base : Nat} {av : Nat → Value} {D : va_G} {cA : Nat → ClassId} {Hs : Heap} {Ls : Nat} {xs : Nat → Int32}
theorem mkN_O {h : AH} {c : Nat} (h1 : 64 ≤ h.2.2.1) (h2 : c < 12) (h3 : ax_styL.getD (h.2.2.1 - 64) (99, 0) = (c, ax_nf c)) : ax_mkO h c = some (mkN h c) := by
  unfold ax_mkO
  rw [if_pos ⟨h1, h2, fun _ => h3⟩]
  rfl
theorem nw_a : ax_new (ax_own 256) 7 = some 10 := by decide +kernel
theorem nw_b : ax_new (ax_own 256) 10 = some 11 := by decide +kernel
theorem sty_a : ax_styL.getD 0 (99, 0) = (10, ax_nf 10) := by decide +kernel
theorem sty_b : ax_styL.getD 89 (99, 0) = (11, ax_nf 11) := by decide +kernel
theorem psi_mkN {g : Nat → Value} {L : Nat} {h : AH} {c : Nat} (ha : 64 ≤ h.2.2.1) : mkN (psi g L h) c = psi g L (mkN h c) := psi_mk ha
theorem law_all (hv : ax_vok av) (hnn : ax_vnn av) (hL : Ls < 2 ^ 31) : ∃ h9, ax_Sound base av D cA Hs Ls xs false 33 256 0 [.ref 48, ax_junk, ax_junk, ax_junk] [] (psi (fun j => .int (xs j)) Ls h00) (some (.int (nI 1))) h9 ∧ h9.2.2.1 ≤ 181 + 21 * (Ls / 8) ∧ h9.2.2.2.1 ≤ 200000 + 21 * (Ls / 8) := by
  obtain ⟨h2, h4, e1, n153, e2, ck⟩ := ctor_ex
  obtain ⟨s, n181, sl, cf⟩ := sg_0 (g := fun j => .int (xs j)) (L := Ls) ck
  have x1 : XX false 12 0 0 (ax_ent [.ref 64] (ax_L 0)) [] (psi (fun j => .int (xs j)) Ls (mkN h00 10)) (none, psi (fun j => .int (xs j)) Ls h2) := ⟨4000, psi_ex _ _ _ _ _ _ _ _ _ e1⟩
  have x2 : XX false 12 153 0 (ax_ent [.ref 153] (ax_L 153)) [] (psi (fun j => .int (xs j)) Ls (mkN h2 11)) (none, psi (fun j => .int (xs j)) Ls h4) := ⟨4000, psi_ex _ _ _ _ _ _ _ _ _ e2⟩
  obtain ⟨h9, x9, b1, b2⟩ := law_loop (Ls / 8) 0 (psi (fun j => .int (xs j)) Ls h4) s hL (by show Ls < 0 + 8 * (Ls / 8) + 8; omega) (by decide)
  obtain ⟨f1, x1⟩ := x1.mono (d' := 32) (by decide)
  obtain ⟨f2, x2⟩ := x2.mono (d' := 32) (by decide)
  obtain ⟨f3, x9⟩ := x9.mono (d' := 33) (by decide)
  refine ⟨h9, law_S (d := 32) (h1 := psi (fun j => .int (xs j)) Ls (mkN h00 10)) (h3 := psi (fun j => .int (xs j)) Ls (mkN h2 11)) hv hnn ?_ x1 ?_ x2 ?_ cf x9, ?_, ?_⟩
  · simp only [ax_step]
    rw [nw_a]
    simp only []
    rw [mkN_O (h := psi (fun j => .int (xs j)) Ls h00) (Nat.le_refl 64) (by decide) sty_a, psi_mkN (Nat.le_refl 64)]
    rfl
  · simp only [ax_step]
    rw [nw_b]
    simp only []
    have n2 : (psi (fun j => Value.int (xs j)) Ls h2).2.2.1 = 153 := n153
    rw [mkN_O (h := psi (fun j => .int (xs j)) Ls h2) (by omega) (by decide) (by rw [n2]; exact sty_b), psi_mkN (by omega), n2]
    rfl
  · show 181 ≤ h4.2.2.1
    omega
  · have : (psi (fun j => Value.int (xs j)) Ls h4).2.2.1 = 181 := n181
    omega
  · have : (psi (fun j => Value.int (xs j)) Ls h4).2.2.2.1 ≤ 200000 := sl
    omega
end S94
