/-! WORDS and cells: numbers, what a run leaves alone -/
theorem in_nI {i n : Nat} (h : i < n) (hn : n < 2 ^ 31) : ax_in (nI i) n = true := by
  unfold ax_in
  rw [nI_clamp (Nat.lt_trans h hn)]
  simp [nI_pos (Nat.lt_trans h hn), h]
theorem nI_subI {a b : Nat} (h : b ≤ a) : nI a - nI b = nI (a - b) := by
  obtain ⟨k, rfl⟩ := Nat.exists_eq_add_of_le h
  rw [← nI_add, Nat.add_sub_cancel_left, Int32.add_comm, Int32.add_sub_cancel]
theorem nI_mulI (a b : Nat) : nI a * nI b = nI (a * b) := by
  show Int32.ofNat a * Int32.ofNat b = Int32.ofNat (a * b)
  exact (Int32.ofNat_mul a b).symm
/-- cells that a run may write: (a, none) all of a, (a, some j) the one -/
def inS : List (Nat × Option Nat) → Nat → Nat → Bool
  | [], _, _ => false
  | (b, o) :: L, a, j => (a == b && (match o with | none => true | some k => j == k)) || inS L a j
def fr (L : List (Nat × Option Nat)) (h h' : AH) : Prop := h'.2 = h.2 ∧ ∀ a j, inS L a j = false → h'.1 a j = h.1 a j
theorem fr.rfl' {L : List (Nat × Option Nat)} {h : AH} : fr L h h := ⟨rfl, fun _ _ _ => rfl⟩
/-- every cell of L is one of L' -/
def subS (L L' : List (Nat × Option Nat)) : Bool := L.all fun p => L'.any fun q => p.1 == q.1 && (q.2 == none || q.2 == p.2)
theorem inS_any : ∀ (L : List (Nat × Option Nat)) (a j : Nat), inS L a j = L.any fun q => a == q.1 && (match q.2 with | none => true | some k => j == k)
  | [], _, _ => rfl
  | (b, o) :: L, a, j => by
    show ((a == b && (match o with | none => true | some k => j == k)) || inS L a j) = _
    rw [inS_any L a j]
    rfl
theorem subS_in {L L' : List (Nat × Option Nat)} (h : subS L L' = true) {a j : Nat} (q : inS L' a j = false) : inS L a j = false := by
  rw [inS_any] at q ⊢
  rw [List.any_eq_false] at q ⊢
  intro p hp c
  have h1 := List.all_eq_true.mp h p hp
  obtain ⟨p', hp', c'⟩ := List.any_eq_true.mp h1
  have h2 := q p' hp'
  apply h2
  simp only [Bool.and_eq_true, beq_iff_eq, Bool.or_eq_true] at c c' ⊢
  refine ⟨c.1.trans c'.1, ?_⟩
  rcases c'.2 with e | e
  · rw [e]
  · rw [e]
    exact c.2
theorem fr.mono {L L' : List (Nat × Option Nat)} {h h' : AH} (f : fr L h h') (q : subS L L' = true) : fr L' h h' := ⟨f.1, fun a j z => f.2 a j (subS_in q z)⟩
theorem fr.trans {L : List (Nat × Option Nat)} {h h1 h2 : AH} (f : fr L h h1) (g : fr L h1 h2) : fr L h h2 := ⟨g.1.trans f.1, fun a j z => (g.2 a j z).trans (f.2 a j z)⟩
theorem fr.I {L : List (Nat × Option Nat)} {h h' : AH} (f : fr L h h') {a j : Nat} (q : inS L a j = false) : hI h' a j = hI h a j := congrArg toI (f.2 a j q)
theorem fr.L {L : List (Nat × Option Nat)} {h h' : AH} (f : fr L h h') {a j : Nat} (q : inS L a j = false) : hL h' a j = hL h a j := congrArg toL (f.2 a j q)
theorem fr.wr {L : List (Nat × Option Nat)} {h : AH} {a j : Nat} {v : Value} (q : inS L a j = true) : fr L h (ax_wr h a j v) := by
  refine ⟨rfl, fun b k z => ?_⟩
  show (if b = a ∧ k = j then v else h.1 b k) = _
  rw [if_neg]
  rintro ⟨rfl, rfl⟩
  rw [q] at z
  cases z
theorem fr.wr' {L : List (Nat × Option Nat)} {h h' : AH} {a j : Nat} {v : Value} (f : fr L h h') (q : inS L a j = true) : fr L h (ax_wr h' a j v) := f.trans (fr.wr q)
theorem wr_I (h : AH) (a j : Nat) (v : Int32) : hI (ax_wr h a j (.int v)) a j = v := by
  show toI (if a = a ∧ j = j then _ else _) = v
  rw [if_pos ⟨rfl, rfl⟩]
  rfl
theorem wr_L (h : AH) (a j : Nat) (v : Int64) : hL (ax_wr h a j (.long v)) a j = v := by
  show toL (if a = a ∧ j = j then _ else _) = v
  rw [if_pos ⟨rfl, rfl⟩]
  rfl
theorem wr_In {h : AH} {a j : Nat} {v : Value} {b k : Nat} (q : ¬ (b = a ∧ k = j)) : hI (ax_wr h a j v) b k = hI h b k := by
  show toI (if b = a ∧ k = j then _ else _) = _
  rw [if_neg q]
  rfl
theorem wr_Ln {h : AH} {a j : Nat} {v : Value} {b k : Nat} (q : ¬ (b = a ∧ k = j)) : hL (ax_wr h a j v) b k = hL h b k := by
  show toL (if b = a ∧ k = j then _ else _) = _
  rw [if_neg q]
  rfl
theorem wr_Ia {h : AH} {a j : Nat} {v : Value} {b k : Nat} (q : b ≠ a) : hI (ax_wr h a j v) b k = hI h b k := wr_In fun z => q z.1
theorem wr_La {h : AH} {a j : Nat} {v : Value} {b k : Nat} (q : b ≠ a) : hL (ax_wr h a j v) b k = hL h b k := wr_Ln fun z => q z.1
theorem wr_Ij {h : AH} {a j : Nat} {v : Value} {b k : Nat} (q : k ≠ j) : hI (ax_wr h a j v) b k = hI h b k := wr_In fun z => q z.2
theorem nI_divI {a b : Nat} (ha : a < 2 ^ 31) (hb : b < 2 ^ 31) : nI a / nI b = nI (a / b) := by
  apply Int32.toInt.inj
  have h1 := Nat.div_le_self a b
  rw [Int32.toInt_div, nI_toInt ha, nI_toInt hb, nI_toInt (Nat.lt_of_le_of_lt h1 ha)]
  rw [Int.tdiv_eq_ediv_of_nonneg (Int.natCast_nonneg a), ← Int.natCast_ediv]
  apply Int.bmod_eq_of_le
  · have : (0 : Int) ≤ ((a / b : Nat) : Int) := Int.natCast_nonneg _
    omega
  · have : ((a / b : Nat) : Int) ≤ a := Int.ofNat_le.mpr h1
    omega
theorem nI_remI (a b : Nat) : nI a - nI (a / b * b) = nI (a % b) := by
  have h := Nat.div_add_mod' a b
  have h2 : a / b * b ≤ a := Nat.div_mul_le_self a b
  rw [nI_subI h2, show a - a / b * b = a % b by omega]
theorem nI_of3 {x : Int32} {n : Nat} (hn : n < 2 ^ 31) (h : nI 0 ≤ x) (h5 : x ≤ nI n) : ∃ j : Nat, j ≤ n ∧ x = nI j := nI_of2 (nI_toInt hn) (Int32.not_lt.mpr h) h5
theorem ix_nI {n : Nat} (h : n < 2 ^ 31) : ix (nI n) = n := nI_clamp h
theorem nI_dec (x : Int32) : x + -nI 1 = x - nI 1 := (Int32.sub_eq_add_neg x (nI 1)).symm
theorem nI_ne1 {n : Nat} (h : n < 2 ^ 31) : ¬ nI n = -nI 1 := by
  intro z
  have h1 := congrArg Int32.toInt z
  rw [nI_toInt h, show (-nI 1).toInt = -1 by decide] at h1
  omega
theorem nI_n0 {n : Nat} (h : n < 2 ^ 31) : ¬ nI n < nI 0 := nI_nlt (Nat.zero_le _) h
theorem nI_z {n : Nat} (h0 : 0 < n) (h : n < 2 ^ 31) : ¬ nI n = nI 0 := nI_ne0 h0 h
theorem nI_p {n : Nat} (h0 : 0 < n) (h : n < 2 ^ 31) : ¬ nI n ≤ nI 0 := nI_nle h0 h
theorem nI_s (n : Nat) : nI n + nI 1 = nI (n + 1) := nI_add n 1
/-! the model's methods: truths of words alone -/
/-! the model's stages -/
section S22
variable {c n : Nat} {K P B : Nat → Nat} {h h' : AH}
end S22
