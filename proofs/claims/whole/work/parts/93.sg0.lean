/-! BEHIND THE CONSTRUCTORS ALL HOLDS -/
section S93
variable {h : AH} {g : Nat → Value} {L : Nat}
theorem ctor_ex : ∃ h2 h4, run1 = some (none, h2) ∧ h2.2.2.1 = 153 ∧ run2 h2 = some (none, h4) ∧ chk h4 = true := by
  have q := ctor_ok
  split at q
  · rename_i h2 e
    rw [Bool.and_eq_true] at q
    obtain ⟨q1, q2⟩ := q
    split at q2
    · rename_i h4 e2
      exact ⟨h2, h4, e, of_decide_eq_true q1, e2, q2⟩
    · cases q2
  · cases q
theorem zI_of {a n : Nat} (q : zI h a n = true) {i : Nat} (hi : i < n) : hI h a i = nI 0 := of_decide_eq_true (List.all_eq_true.mp q i (List.mem_range.mpr hi))
theorem nR_of {a n : Nat} (q : nR h a n = true) {i : Nat} (hi : i < n) : h.1 a i = .null := by
  have := List.all_eq_true.mp q i (List.mem_range.mpr hi)
  split at this
  · assumption
  · cases this
theorem iR_of {a j q : Nat} (z : iR h a j q = true) : h.1 a j = .ref q := by
  unfold iR at z
  split at z
  · rename_i k e
    rw [e, of_decide_eq_true z]
  · cases z
theorem cfOk_of (z : cfOk h = true) {a j q : Nat} (ha : 64 ≤ a) (e : (ax_cfL.getD (a - 64) []).getD j none = some q) : h.1 a j = .ref q := by
  have l1 : a - 64 < ax_cfL.length := by
    apply Classical.byContradiction
    intro y
    rw [List.getD_eq_getElem?_getD, List.getD_eq_getElem?_getD, List.getElem?_eq_none (Nat.le_of_not_lt y)] at e
    cases e
  have l2 : j < (ax_cfL.getD (a - 64) []).length := by
    apply Classical.byContradiction
    intro y
    rw [List.getD_eq_getElem?_getD, List.getElem?_eq_none (Nat.le_of_not_lt y)] at e
    cases e
  have x := List.all_eq_true.mp z (a - 64) (List.mem_range.mpr l1)
  have y := List.all_eq_true.mp x j (List.mem_range.mpr l2)
  rw [e] at y
  have w := iR_of y
  rw [Nat.add_sub_cancel' ha] at w
  exact w
theorem pI {a : Nat} (j : Nat) (ha : a ≠ 48) : hI (psi g L h) a j = hI h a j := congrArg toI (if_neg ha)
theorem pL {a : Nat} (j : Nat) (ha : a ≠ 48) : hL (psi g L h) a j = hL h a j := congrArg toL (if_neg ha)
theorem pR {a : Nat} (j : Nat) (ha : a ≠ 48) : hR (psi g L h) a j = hR h a j := congrArg toR (if_neg ha)
theorem sg_0 (ck : chk h = true) : sg (psi g L h) ∧ h.2.2.1 = 181 ∧ h.2.2.2.1 ≤ 200000 ∧ ∀ a j q, 64 ≤ a → (ax_cfL.getD (a - 64) []).getD j none = some q → (psi g L h).1 a j = .ref q := by
  unfold chk at ck
  simp only [Bool.and_eq_true] at ck
  obtain ⟨⟨⟨⟨⟨⟨⟨⟨⟨⟨⟨⟨⟨⟨⟨⟨⟨⟨⟨⟨⟨⟨⟨⟨⟨⟨⟨⟨⟨⟨⟨⟨⟨⟨⟨⟨⟨⟨c1, c2⟩, c3⟩, c4⟩, c5⟩, c6⟩, c7⟩, c8⟩, c9⟩, c10⟩, c11⟩, c12⟩, c13⟩, c14⟩, c15⟩, c16⟩, c17⟩, c18⟩, c19⟩, c20⟩, c21⟩, c22⟩, c23⟩, c24⟩, c25⟩, c26⟩, c27⟩, c28⟩, c29⟩, c30⟩, c31⟩, c32⟩, c33⟩, c34⟩, c35⟩, c36⟩, c37⟩, c38⟩, c39⟩ := ck
  have n181 : h.2.2.1 = 181 := of_decide_eq_true c1
  have al : 181 ≤ (psi g L h).2.2.1 := by show 181 ≤ h.2.2.1; omega
  have v : ∀ {a j x}, a ≠ 48 → vI h a j x = true → hI (psi g L h) a j = x := fun ha z => (pI _ ha).trans (of_decide_eq_true z)
  have z0 : ∀ {a n i}, a ≠ 48 → zI h a n = true → i < n → hI (psi g L h) a i = nI 0 := fun ha z hi => (pI _ ha).trans (zI_of z hi)
  have r9 : ∀ {a n i}, a ≠ 48 → nR h a n = true → i < n → hR (psi g L h) a i = rf 9 := fun ha z hi => (pR _ ha).trans (by unfold hR; rw [nR_of z hi]; rfl)
  have rr : ∀ {a j q}, a ≠ 48 → q ≠ 9 → iR h a j q = true → hR (psi g L h) a j = rf q := fun ha hq z => (pR _ ha).trans (by unfold hR; rw [iR_of z, rf_ne hq]; rfl)
  have no : ∀ {p : Nat → Prop}, ∀ i, i < 0 → p i := fun i hi => absurd hi (Nat.not_lt_zero _)
  have ok3 : okS 3 0 (fun _ => 0) (fun _ => 0) (fun _ => 0) := ⟨by decide, by decide, by decide, no⟩
  have s4 := fun s (hs : s < 4) => List.all_eq_true.mp c27 s (List.mem_range.mpr hs)
  simp only [Bool.and_eq_true] at s4
  have l10 : hL (psi g L h) 153 10 = lN 1 := (pL _ (by decide)).trans (of_decide_eq_true c17)
  have l7 : hL (psi g L h) 65 7 = lN 1 := (pL _ (by decide)).trans (of_decide_eq_true c18)
  have gs : gS 3 0 (fun _ => 0) (fun _ => 0) (fun _ => 0) (psi g L h) := ⟨⟨ok3, v (by decide) c4, v (by decide) c5, no⟩, fun _ => 0, ok3, al, v (by decide) c6, v (by decide) c7, no, no, fun i hi => by
    obtain rfl : i = 0 := by omega
    exact v (by decide) c8, no, fun j hj i hi => absurd hi (by omega)⟩
  have gw : gW (fun _ => 0) (psi g L h) := ⟨fun i hi => ⟨z0 (by decide) c9 hi, by show (-9 : Int) ≤ 0; decide, by show (0 : Int) ≤ 9; decide⟩, fun i hi => ⟨z0 (by decide) c10 hi, by show (-9 : Int) ≤ 0; decide, by show (0 : Int) ≤ 9; decide⟩⟩
  have gp : gP 0 (fun _ => 0) (fun _ => 0) (psi g L h) := ⟨⟨Nat.zero_le _, v (by decide) c11, no⟩, Nat.zero_le _, v (by decide) c12, no⟩
  have gr : gQ 0 (fun _ _ => 0) (fun _ => 0) (psi g L h) := ⟨⟨v (by decide) c13, ⟨Nat.zero_le _, no⟩, no⟩, ⟨fun _ => 0, fun _ => 0, v (by decide) c14, ⟨⟨Nat.zero_le _, no⟩, no⟩, no, no⟩, fun i hi => ⟨⟨9, r9 (by decide) c15 hi, Or.inl rfl⟩, 9, r9 (by decide) c16 hi, Or.inl rfl⟩⟩
  have gk : gK' 1 (psi g L h) := ⟨⟨l10, by decide, by decide⟩, l7, by decide, by decide⟩
  have tp : tap (psi g L h) := ⟨0, fun _ => 0, ⟨Nat.zero_le _, v (by decide) c19, no⟩, Nat.zero_le _, v (by decide) c20, no⟩
  have rk : rks (psi g L h) := ⟨fun _ => 9, fun _ _ => 0, fun _ _ => 0, fun _ _ => 0, fun _ _ => 0, fun _ _ => 0, fun r hr => ⟨Or.inl rfl, by
    have : r = 0 ∨ r = 1 := by omega
    rcases this with rfl | rfl
    · exact v (by decide) c21
    · exact v (by decide) c22, fun i hi => ⟨z0 (by decide) c23 (by omega), show (0 : Nat) < 2 by decide, fun y => absurd (show (0 : Nat) = 1 from y) (by decide)⟩⟩, fun r hr => ⟨Or.inl rfl, by
    have : r = 0 ∨ r = 1 := by omega
    rcases this with rfl | rfl
    · exact v (by decide) c24
    · exact v (by decide) c25, fun i hi => ⟨r9 (by decide) c26 (by omega), fun y => absurd (show (0 : Nat) = 1 from y) (by decide)⟩⟩⟩
  have sh : shs (psi g L h) := ⟨fun _ => 0, fun _ => 0, fun _ _ => nI 0, fun s hs => ⟨show (0 : Nat) < 3 by decide, show (0 : Nat) ≤ 40 by decide, v (by decide) (s4 s hs).1.1.1.1, v (by decide) (s4 s hs).1.1.1.2, fun i hi => z0 (by decide) c28 (by omega)⟩, fun s hs => ⟨show (0 : Nat) < 3 by decide, show (0 : Nat) ≤ 40 by decide, v (by omega) (s4 s hs).1.1.2, v (by omega) (s4 s hs).1.2, fun i hi => z0 (by omega) (s4 s hs).2 hi⟩⟩
  have hd : hds (psi g L h) := ⟨fun _ => 0, fun _ => 0, fun _ _ _ => 0, fun _ _ => 0, fun _ => 0, fun _ => 0, fun _ _ => 0, fun q hq => ⟨z0 (by decide) c29 hq, show (0 : Nat) < 4 by decide, fun y => absurd (show (0 : Nat) = 1 from y) (by decide), fun y => absurd (show (0 : Nat) = 2 from y) (by decide), fun y => absurd (show (0 : Nat) = 3 from y) (by decide)⟩, fun q hq => ⟨z0 (by decide) c30 hq, show (0 : Nat) < 4 by decide, r9 (by decide) c31 hq, r9 (by decide) c32 hq, fun y => absurd (show (0 : Nat) = 1 from y) (by decide), fun y => absurd (show (0 : Nat) = 2 from y) (by decide), fun y => absurd (show (0 : Nat) = 3 from y) (by decide)⟩⟩
  have kp : kep (psi g L h) := Or.inl ⟨v (by decide) c33, v (by decide) c34, 3, 0, fun _ => 0, fun _ => 0, fun _ => 0, fun _ => 0, ok3, al, v (by decide) c35, v (by decide) c36, no, no, fun i hi => by
    obtain rfl : i = 0 := by omega
    exact v (by decide) c37, no, fun j hj i hi => absurd hi (by omega)⟩
  have pl : plx (psi g L h) := ⟨130, Or.inl rfl, rr (by decide) (by decide) c38, rr (by decide) (by decide) c39⟩
  refine ⟨⟨3, 0, _, _, _, _, 0, _, _, 0, _, _, 1, gs, gw, gp, gr, gk, tp, rk, sh, hd, kp, pl⟩, n181, of_decide_eq_true c2, fun a j q ha e => ?_⟩
  show (if a = 48 then g j else h.1 a j) = _
  rw [if_neg (by omega)]
  exact cfOk_of c3 ha e
end S93
