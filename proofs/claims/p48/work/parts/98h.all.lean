/-! THE WHOLE LAW IN THE SMALL MACHINE -/
section S98h
variable {base : Nat} {av : Nat → Value} {D : va_G} {cA : Nat → ClassId} {Hs : Heap} {Ls : Nat} {xs : Nat → Int32}
theorem mkN_O {h : AH} {c : Nat} (h1 : 64 ≤ h.2.2.1) (h2 : c < 12) (h3 : ax_styL.getD (h.2.2.1 - 64) (99, 0) = (c, ax_nf c)) : ax_mkO h c = some (mkN h c) := by
  unfold ax_mkO
  rw [if_pos ⟨h1, h2, fun _ => h3⟩]
  rfl
theorem nq_a : ax_new (ax_own 112) 32 = some 10 := by decide +kernel
theorem nq_b : ax_new (ax_own 84) 20 = some 11 := by decide +kernel
theorem sty_a : ax_styL.getD 0 (99, 0) = (10, ax_nf 10) := by decide +kernel
theorem sty_b : ax_styL.getD 89 (99, 0) = (11, ax_nf 11) := by decide +kernel
theorem psi_mkN {g : Nat → Value} {L : Nat} {h : AH} {c : Nat} (ha : 64 ≤ h.2.2.1) : mkN (psi g L h) c = psi g L (mkN h c) := psi_mk ha
theorem cf_lt {a j q : Nat} (e : (ax_cfL.getD (a - 64) []).getD j none = some q) : a < 168 := by
  apply Classical.byContradiction
  intro y
  have l : ax_cfL.length = 104 := by decide +kernel
  have z : ax_cfL.length ≤ a - 64 := by omega
  rw [List.getD_eq_getElem?_getD, List.getD_eq_getElem?_getD, List.getElem?_eq_none z] at e
  cases e
theorem law_all (hv : ax_vok av) (hnn : ax_vnn av) (hL : Ls < 2 ^ 31) : ∃ h9, ax_Sound base av D cA Hs Ls xs false 18 112 0 (ls15 ax_junk ax_junk) [] (psi (fun j => .int (xs j)) Ls h00) (some (.int (nI 1))) h9 ∧ h9.2.2.1 ≤ 174145 ∧ h9.2.2.2.1 ≤ 373977 := by
  obtain ⟨h2, h4, e1, n153, e2, ck⟩ := ctor_ex
  obtain ⟨s, a1, a9, n168, sl, cf⟩ := sg_0 (g := fun j => .int (xs j)) (L := Ls) ck
  have x1 : XX false 12 0 0 (ax_ent [.ref 64] (ax_L 0)) [] (psi (fun j => .int (xs j)) Ls (mkN h00 10)) (none, psi (fun j => .int (xs j)) Ls h2) := ⟨4000, psi_ex _ _ _ _ _ _ _ _ _ e1⟩
  have x2 : XX false 12 85 0 (ax_ent [.ref 153] (ax_L 85)) [] (psi (fun j => .int (xs j)) Ls (mkN h2 11)) (none, psi (fun j => .int (xs j)) Ls h4) := ⟨4000, psi_ex _ _ _ _ _ _ _ _ _ e2⟩
  obtain ⟨c, n, K, P, B, nr, U, V, W, h5, x5, n5, f5, o5, g5, b9⟩ := lm_made (h := psi (fun j => .int (xs j)) Ls h4) hL s a1 a9
  rw [rf_ne (by decide)] at x5
  have fx := x5.fixd (by show 168 ≤ h4.2.2.1; omega)
  obtain ⟨h9, x9, f9⟩ := lw_law (h := h5) (by rw [f5.2.2.2.1]; exact hL) o5 g5 b9
  obtain ⟨k1, x1⟩ := x1.mono (d' := 17) (by decide)
  obtain ⟨k2, x2⟩ := x2.mono (d' := 16) (by decide)
  obtain ⟨k5, x5⟩ := x5.mono (d' := 17) (by decide)
  obtain ⟨k9, x9⟩ := x9
  have cf5 : ∀ a j q, 64 ≤ a → (ax_cfL.getD (a - 64) []).getD j none = some q → h5.1 a j = .ref q := fun a j q ha e => by
    rw [fx.2 a j (cf_lt e) (by unfold ax_wok; rw [e]; simp)]
    exact cf a j q ha e
  have n5' : (psi (fun j => Value.int (xs j)) Ls h4).2.2.1 = 168 := n168
  have l5 : (psi (fun j => Value.int (xs j)) Ls h4).2.2.2.1 ≤ 200000 := sl
  refine ⟨h9, law_S (d := 16) (h1 := psi (fun j => .int (xs j)) Ls (mkN h00 10)) hv hnn ?_ x1 (made_S (d := 16) (h3 := psi (fun j => .int (xs j)) Ls (mkN h2 11)) hv hnn ?_ x2 (by rw [n5']; exact Nat.le_refl _) cf x5) fx.1 cf5 x9, ?_, ?_⟩
  · simp only [ax_step]
    rw [nq_a]
    simp only []
    rw [mkN_O (h := psi (fun j => .int (xs j)) Ls h00) (Nat.le_refl 64) (by decide) sty_a, psi_mkN (Nat.le_refl 64)]
    rfl
  · simp only [ax_step]
    rw [nq_b]
    simp only []
    have n2 : (psi (fun j => Value.int (xs j)) Ls h2).2.2.1 = 153 := n153
    rw [mkN_O (h := psi (fun j => .int (xs j)) Ls h2) (by omega) (by decide) (by rw [n2]; exact sty_b), psi_mkN (by omega), n2]
    rfl
  · have := f5.2.1
    have := f9.2.1
    omega
  · have := f5.2.2.1
    have := f9.2.2.1
    omega
end S98h
