/-! THE CONSTRUCTORS, run by the kernel; behind them all holds -/
def h00 : AH := (fun a _ => if a = 48 then .int (nI 0) else .null, fun _ => 0, 64, 0, 0)
def mkN (h : AH) (c : Nat) : AH := ax_mk h c (ax_nf c) (fun j => ax_df (ax_fc c j))
def zI (h : AH) (a n : Nat) : Bool := (List.range n).all fun i => decide (hI h a i = nI 0)
def vI (h : AH) (a j : Nat) (v : Int32) : Bool := decide (hI h a j = v)
def iR (h : AH) (a j q : Nat) : Bool := match h.1 a j with
  | .ref k => decide (k = q)
  | _ => false
def cfOk (h : AH) : Bool := (List.range ax_cfL.length).all fun b => (List.range (ax_cfL.getD b []).length).all fun j => match (ax_cfL.getD b []).getD j none with
  | some q => iR h (64 + b) j q
  | none => true
def chk (h : AH) : Bool := decide (h.2.2.1 = 168) && decide (h.2.2.2.1 ≤ 200000) && cfOk h && vI h 66 0 (nI 3) && vI h 66 3 (nI 0) && vI h 70 0 (nI 1) && zI h 67 5 && vI h 87 2 (nI 0) && vI h 65 6 (nI 0) && decide (hL h 65 7 = lN 1) && iR h 129 0 130 && iR h 129 1 131 && vI h 153 1 (nI 0) && vI h 153 9 (nI 0)
def run1 : Option (Option Value × AH) := ax_exG false 4000 12 0 0 (ax_ent [.ref 64] (ax_L 0)) [] (mkN h00 10)
def run2 (h : AH) : Option (Option Value × AH) := ax_exG false 4000 12 85 0 (ax_ent [.ref 153] (ax_L 85)) [] (mkN h 11)
theorem ctor_ok : (match run1 with
  | some (none, h) => decide (h.2.2.1 = 153) && (match run2 h with
    | some (none, h') => chk h'
    | _ => false)
  | _ => false) = true := by decide +kernel
section S98f
variable {h : AH} {g : Nat → Value} {L : Nat}
theorem ctor_ex : ∃ h2 h4, run1 = some (none, h2) ∧ h2.2.2.1 = 153 ∧ run2 h2 = some (none, h4) ∧ chk h4 = true := by
  have q := ctor_ok
  split at q
  · rename_i h2 e
    rw [Bool.and_eq_true] at q
    obtain ⟨q1, q2⟩ := q
    split at q2
    · rename_i h4 e2
      exact ⟨h2, h4, e, of_decide_eq_true q1, e2, q2⟩
    · cases q2
  · cases q
theorem zI_of {a n : Nat} (q : zI h a n = true) {i : Nat} (hi : i < n) : hI h a i = nI 0 := of_decide_eq_true (List.all_eq_true.mp q i (List.mem_range.mpr hi))
theorem iR_of {a j q : Nat} (z : iR h a j q = true) : h.1 a j = .ref q := by
  unfold iR at z
  split at z
  · rename_i k e
    rw [e, of_decide_eq_true z]
  · cases z
theorem cfOk_of (z : cfOk h = true) {a j q : Nat} (ha : 64 ≤ a) (e : (ax_cfL.getD (a - 64) []).getD j none = some q) : h.1 a j = .ref q := by
  have l1 : a - 64 < ax_cfL.length := by
    apply Classical.byContradiction
    intro y
    rw [List.getD_eq_getElem?_getD, List.getD_eq_getElem?_getD, List.getElem?_eq_none (Nat.le_of_not_lt y)] at e
    cases e
  have l2 : j < (ax_cfL.getD (a - 64) []).length := by
    apply Classical.byContradiction
    intro y
    rw [List.getD_eq_getElem?_getD, List.getElem?_eq_none (Nat.le_of_not_lt y)] at e
    cases e
  have x := List.all_eq_true.mp z (a - 64) (List.mem_range.mpr l1)
  have y := List.all_eq_true.mp x j (List.mem_range.mpr l2)
  rw [e] at y
  have w := iR_of y
  rw [Nat.add_sub_cancel' ha] at w
  exact w
theorem pI {a : Nat} (j : Nat) (ha : a ≠ 48) : hI (psi g L h) a j = hI h a j := congrArg toI (if_neg ha)
theorem pL {a : Nat} (j : Nat) (ha : a ≠ 48) : hL (psi g L h) a j = hL h a j := congrArg toL (if_neg ha)
theorem pR {a : Nat} (j : Nat) (ha : a ≠ 48) : hR (psi g L h) a j = hR h a j := congrArg toR (if_neg ha)
theorem sg_0 (ck : chk h = true) : lG 3 0 (fun _ => 0) (fun _ => 0) (fun _ => 0) 0 (fun _ => 0) (fun _ => 0) 0 (fun _ _ => 0) (fun _ => 0) (fun _ => 0) (psi g L h) ∧ hI (psi g L h) 153 1 = nI 0 ∧ hI (psi g L h) 153 9 = nI 0 ∧ h.2.2.1 = 168 ∧ h.2.2.2.1 ≤ 200000 ∧ ∀ a j q, 64 ≤ a → (ax_cfL.getD (a - 64) []).getD j none = some q → (psi g L h).1 a j = .ref q := by
  unfold chk at ck
  simp only [Bool.and_eq_true] at ck
  obtain ⟨⟨⟨⟨⟨⟨⟨⟨⟨⟨⟨⟨⟨c1, c2⟩, c3⟩, c4⟩, c5⟩, c6⟩, c7⟩, c8⟩, c9⟩, c10⟩, c11⟩, c12⟩, c13⟩, c14⟩ := ck
  have n168 : h.2.2.1 = 168 := of_decide_eq_true c1
  have al : 168 ≤ (psi g L h).2.2.1 := by show 168 ≤ h.2.2.1; omega
  have v : ∀ {a j x}, a ≠ 48 → vI h a j x = true → hI (psi g L h) a j = x := fun ha z => (pI _ ha).trans (of_decide_eq_true z)
  have rr : ∀ {a j q}, a ≠ 48 → q ≠ 9 → iR h a j q = true → hR (psi g L h) a j = rf q := fun ha hq z => (pR _ ha).trans (by unfold hR; rw [iR_of z, rf_ne hq]; rfl)
  have no : ∀ {p : Nat → Prop}, ∀ i, i < 0 → p i := fun i hi => absurd hi (Nat.not_lt_zero _)
  refine ⟨⟨fun _ => 0, fun _ => 0, fun _ => 0, 130, ?_, ?_, ?_, ?_, ?_, ?_⟩, v (by decide) c13, v (by decide) c14, n168, of_decide_eq_true c2, fun a j q ha e => ?_⟩
  · exact ⟨⟨by decide, by decide, by decide, no⟩, al, v (by decide) c4, v (by decide) c5, no, no, fun i hi => by
      obtain rfl : i = 0 := by omega
      exact v (by decide) c6, no, fun j hj i hi => by omega⟩
  · exact ⟨by decide, v (by decide) c8, no⟩
  · exact ⟨v (by decide) c9, ⟨⟨by decide, no⟩, no⟩, no, no⟩
  · exact fun i hi => ⟨(pI _ (by decide)).trans (zI_of c7 hi), by show (-9 : Int) ≤ 0; decide, by show (0 : Int) ≤ 9; decide⟩
  · exact ⟨(pL _ (by decide)).trans (of_decide_eq_true c10), by decide, by decide⟩
  · exact ⟨Or.inl rfl, rr (by decide) (by decide) c11, rr (by decide) (by decide) c12⟩
  · have h48 : a ≠ 48 := by omega
    exact (if_neg h48).trans (cfOk_of c3 ha e)
end S98f
