/-! THE REFERENCE'S CALLS: replies -/
section S40
variable {c n np nr : Nat} {K P B T C : Nat → Nat} {U : Nat → Nat → Nat} {V W : Nat → Int} {h h' : AH}
theorem v_go_le {S : (Nat → Nat) → Int} {b : Nat → Nat} {M : Nat} {lo hi : Int} (hS : ∀ tr, lo ≤ S tr ∧ S tr ≤ hi) : ∀ f tr x bt, lo ≤ x → x ≤ hi → lo ≤ (v_go S b M f tr x bt).1 ∧ (v_go S b M f tr x bt).1 ≤ hi
  | 0, _, _, _, h1, h2 => ⟨h1, h2⟩
  | f + 1, tr, x, bt, h1, h2 => by
    unfold v_go
    split
    · split
      · exact v_go_le hS f _ _ _ (hS _).1 (hS _).2
      · exact v_go_le hS f _ _ _ h1 h2
    · exact ⟨h1, h2⟩
theorem v_go_tr {S : (Nat → Nat) → Int} {b : Nat → Nat} {M : Nat} : ∀ f tr x bt, (∀ t, t < M → tr t < b t) → (∀ t, t < M → bt t < b t) → ∀ t, t < M → (v_go S b M f tr x bt).2 t < b t
  | 0, _, _, _, _, h2 => h2
  | f + 1, tr, x, bt, h1, h2 => by
    have h3 := v_nxt_lt b M tr h1
    unfold v_go
    split
    · split
      · exact v_go_tr f _ _ _ h3 h3
      · exact v_go_tr f _ _ _ h3 h2
    · exact h2
theorem v_rep_le (s : okS c n K P B) (r : okR nr U V) (w : ∀ i, i < 5 → -9 ≤ W i ∧ W i ≤ 9) (ch : Nat → Nat → Nat → Nat) (p : Nat) : -30000000 ≤ (v_rep c n K P B ch U V W nr p).1 ∧ (v_rep c n K P B ch U V W nr p).1 ≤ 30000000 := v_go_le (fun tr => v_trS_le s r w ch p tr) 800 _ _ _ (v_trS_le s r w ch p _).1 (v_trS_le s r w ch p _).2
theorem v_rep_tr (s : okS c n K P B) (ch : Nat → Nat → Nat → Nat) (p : Nat) : ∀ t, t < v_sM c n K P B p → (v_rep c n K P B ch U V W nr p).2 t < B (v_sJ c n K P B p t) := by
  have z : ∀ t, t < v_sM c n K P B p → (fun _ : Nat => 0) t < B (v_sJ c n K P B p t) := fun t ht => by have := v_setB s ht; show 0 < _; omega
  exact v_go_tr 800 _ _ _ z z
/-- a part of a fraction in lowest terms -/
def v_frac (A : Int) (D : Nat) (part : Int32) : Int64 := (if part = nI 0 then lI A else lN D) / lN (Nat.gcd A.natAbs D)
noncomputable def a_reply (c n : Nat) (K P B : Nat → Nat) (ch : Nat → Nat → Nat → Nat) (U : Nat → Nat → Nat) (V W : Nat → Int) (nr : Nat) (p part : Int32) : Int64 := if isPl p ∧ isPt part then (if 729 < v_much c n K P B (ix p) (v_sM c n K P B (ix p)) then lNO 5 else v_frac (v_rep c n K P B ch U V W nr (ix p)).1 (v_chn c K B n) part) else lNO 2
end S40
