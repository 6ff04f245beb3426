/-! WORDS and cells: numbers, what a run leaves alone -/
theorem in_nI {i n : Nat} (h : i < n) (hn : n < 2 ^ 31) : ax_in (nI i) n = true := by
  unfold ax_in
  rw [nI_clamp (Nat.lt_trans h hn)]
  simp [nI_pos (Nat.lt_trans h hn), h]
theorem nI_subI {a b : Nat} (h : b ≤ a) : nI a - nI b = nI (a - b) := by
  obtain ⟨k, rfl⟩ := Nat.exists_eq_add_of_le h
  rw [← nI_add, Nat.add_sub_cancel_left, Int32.add_comm, Int32.add_sub_cancel]
theorem nI_mulI (a b : Nat) : nI a * nI b = nI (a * b) := by
  show Int32.ofNat a * Int32.ofNat b = Int32.ofNat (a * b)
  exact (Int32.ofNat_mul a b).symm
/-- cells that a run may write: (a, none) all of a, (a, some j) the one -/
def inS : List (Nat × Option Nat) → Nat → Nat → Bool
  | [], _, _ => false
  | (b, o) :: L, a, j => (a == b && (match o with | none => true | some k => j == k)) || inS L a j
theorem inS_app : ∀ (L L' : List (Nat × Option Nat)) (a j : Nat), inS (L ++ L') a j = (inS L a j || inS L' a j)
  | [], _, _, _ => rfl
  | (b, o) :: L, L', a, j => by
    show ((a == b && (match o with | none => true | some k => j == k)) || inS (L ++ L') a j) = _
    rw [inS_app L L' a j, ← Bool.or_assoc]
    rfl
def fr (L : List (Nat × Option Nat)) (h h' : AH) : Prop := h'.2 = h.2 ∧ ∀ a j, inS L a j = false → h'.1 a j = h.1 a j
theorem fr.rfl' {L : List (Nat × Option Nat)} {h : AH} : fr L h h := ⟨rfl, fun _ _ _ => rfl⟩
/-- every cell of L is one of L' -/
def subS (L L' : List (Nat × Option Nat)) : Bool := L.all fun p => L'.any fun q => p.1 == q.1 && (q.2 == none || q.2 == p.2)
theorem inS_any : ∀ (L : List (Nat × Option Nat)) (a j : Nat), inS L a j = L.any fun q => a == q.1 && (match q.2 with | none => true | some k => j == k)
  | [], _, _ => rfl
  | (b, o) :: L, a, j => by
    show ((a == b && (match o with | none => true | some k => j == k)) || inS L a j) = _
    rw [inS_any L a j]
    rfl
theorem subS_in {L L' : List (Nat × Option Nat)} (h : subS L L' = true) {a j : Nat} (q : inS L' a j = false) : inS L a j = false := by
  rw [inS_any] at q ⊢
  rw [List.any_eq_false] at q ⊢
  intro p hp c
  have h1 := List.all_eq_true.mp h p hp
  obtain ⟨p', hp', c'⟩ := List.any_eq_true.mp h1
  have h2 := q p' hp'
  apply h2
  simp only [Bool.and_eq_true, beq_iff_eq, Bool.or_eq_true] at c c' ⊢
  refine ⟨c.1.trans c'.1, ?_⟩
  rcases c'.2 with e | e
  · rw [e]
  · rw [e]
    exact c.2
theorem fr.mono {L L' : List (Nat × Option Nat)} {h h' : AH} (f : fr L h h') (q : subS L L' = true) : fr L' h h' := ⟨f.1, fun a j z => f.2 a j (subS_in q z)⟩
theorem fr.trans {L : List (Nat × Option Nat)} {h h1 h2 : AH} (f : fr L h h1) (g : fr L h1 h2) : fr L h h2 := ⟨g.1.trans f.1, fun a j z => (g.2 a j z).trans (f.2 a j z)⟩
theorem fr.I {L : List (Nat × Option Nat)} {h h' : AH} (f : fr L h h') {a j : Nat} (q : inS L a j = false) : hI h' a j = hI h a j := congrArg toI (f.2 a j q)
theorem fr.L {L : List (Nat × Option Nat)} {h h' : AH} (f : fr L h h') {a j : Nat} (q : inS L a j = false) : hL h' a j = hL h a j := congrArg toL (f.2 a j q)
theorem fr.wr {L : List (Nat × Option Nat)} {h : AH} {a j : Nat} {v : Value} (q : inS L a j = true) : fr L h (ax_wr h a j v) := by
  refine ⟨rfl, fun b k z => ?_⟩
  show (if b = a ∧ k = j then v else h.1 b k) = _
  rw [if_neg]
  rintro ⟨rfl, rfl⟩
  rw [q] at z
  cases z
theorem fr.wr' {L : List (Nat × Option Nat)} {h h' : AH} {a j : Nat} {v : Value} (f : fr L h h') (q : inS L a j = true) : fr L h (ax_wr h' a j v) := f.trans (fr.wr q)
theorem wr_I (h : AH) (a j : Nat) (v : Int32) : hI (ax_wr h a j (.int v)) a j = v := by
  show toI (if a = a ∧ j = j then _ else _) = v
  rw [if_pos ⟨rfl, rfl⟩]
  rfl
theorem wr_L (h : AH) (a j : Nat) (v : Int64) : hL (ax_wr h a j (.long v)) a j = v := by
  show toL (if a = a ∧ j = j then _ else _) = v
  rw [if_pos ⟨rfl, rfl⟩]
  rfl
theorem wr_In {h : AH} {a j : Nat} {v : Value} {b k : Nat} (q : ¬ (b = a ∧ k = j)) : hI (ax_wr h a j v) b k = hI h b k := by
  show toI (if b = a ∧ k = j then _ else _) = _
  rw [if_neg q]
  rfl
theorem wr_Ln {h : AH} {a j : Nat} {v : Value} {b k : Nat} (q : ¬ (b = a ∧ k = j)) : hL (ax_wr h a j v) b k = hL h b k := by
  show toL (if b = a ∧ k = j then _ else _) = _
  rw [if_neg q]
  rfl
theorem wr_Ia {h : AH} {a j : Nat} {v : Value} {b k : Nat} (q : b ≠ a) : hI (ax_wr h a j v) b k = hI h b k := wr_In fun z => q z.1
theorem wr_La {h : AH} {a j : Nat} {v : Value} {b k : Nat} (q : b ≠ a) : hL (ax_wr h a j v) b k = hL h b k := wr_Ln fun z => q z.1
theorem wr_Ij {h : AH} {a j : Nat} {v : Value} {b k : Nat} (q : k ≠ j) : hI (ax_wr h a j v) b k = hI h b k := wr_In fun z => q z.2
theorem toI64_lt (x y : Int32) : x.toInt64 < y.toInt64 ↔ x < y := by rw [Int64.lt_iff_toInt_lt, Int32.lt_iff_toInt_lt, Int32.toInt_toInt64, Int32.toInt_toInt64]
theorem toI64_le (x y : Int32) : x.toInt64 ≤ y.toInt64 ↔ x ≤ y := by rw [Int64.le_iff_toInt_le, Int32.le_iff_toInt_le, Int32.toInt_toInt64, Int32.toInt_toInt64]
theorem nI_divI {a b : Nat} (ha : a < 2 ^ 31) (hb : b < 2 ^ 31) : nI a / nI b = nI (a / b) := by
  apply Int32.toInt.inj
  have h1 := Nat.div_le_self a b
  rw [Int32.toInt_div, nI_toInt ha, nI_toInt hb, nI_toInt (Nat.lt_of_le_of_lt h1 ha)]
  rw [Int.tdiv_eq_ediv_of_nonneg (Int.natCast_nonneg a), ← Int.natCast_ediv]
  apply Int.bmod_eq_of_le
  · have : (0 : Int) ≤ ((a / b : Nat) : Int) := Int.natCast_nonneg _
    omega
  · have : ((a / b : Nat) : Int) ≤ a := Int.ofNat_le.mpr h1
    omega
theorem nI_remI (a b : Nat) : nI a - nI (a / b * b) = nI (a % b) := by
  have h := Nat.div_add_mod' a b
  have h2 : a / b * b ≤ a := Nat.div_mul_le_self a b
  rw [nI_subI h2, show a - a / b * b = a % b by omega]
theorem lN_nI {n : Nat} (h : n < 2 ^ 31) : lN n = (nI n).toInt64 := (nI_l h).symm
theorem nI_of3 {x : Int32} {n : Nat} (hn : n < 2 ^ 31) (h : nI 0 ≤ x) (h5 : x ≤ nI n) : ∃ j : Nat, j ≤ n ∧ x = nI j := nI_of2 (nI_toInt hn) (Int32.not_lt.mpr h) h5
theorem nI_lit (k : Nat) : nI k = Int32.ofNat k := rfl
theorem ix_nI {n : Nat} (h : n < 2 ^ 31) : ix (nI n) = n := nI_clamp h
theorem nI_dec (x : Int32) : x + -nI 1 = x - nI 1 := (Int32.sub_eq_add_neg x (nI 1)).symm
theorem nI_ne1 {n : Nat} (h : n < 2 ^ 31) : ¬ nI n = -nI 1 := by
  intro z
  have h1 := congrArg Int32.toInt z
  rw [nI_toInt h, show (-nI 1).toInt = -1 by decide] at h1
  omega
theorem nI_n0 {n : Nat} (h : n < 2 ^ 31) : ¬ nI n < nI 0 := nI_nlt (Nat.zero_le _) h
theorem nI_z {n : Nat} (h0 : 0 < n) (h : n < 2 ^ 31) : ¬ nI n = nI 0 := nI_ne0 h0 h
theorem nI_p {n : Nat} (h0 : 0 < n) (h : n < 2 ^ 31) : ¬ nI n ≤ nI 0 := nI_nle h0 h
theorem nI_s (n : Nat) : nI n + nI 1 = nI (n + 1) := nI_add n 1
/-! the model's methods: truths of words alone -/
theorem sp_in (x y z : Int64) (h : AH) : XX true 1 155 0 [.long (x), ax_junk, .long (y), ax_junk, .long (z), ax_junk] [] (h) (some (.int (b2i (y ≤ x ∧ x ≤ z))), h) := by
  refine wb_X12_in_0 ?_
  by_cases q : lg_cmp x y < nI 0
  · rw [if_pos q, b2i_f (fun c => absurd c.1 (Int64.not_le.mpr ((lg_lt0 x y).mp q)))]
  · rw [if_neg q]
    have q1 : y ≤ x := Int64.not_lt.mp fun c => q ((lg_lt0 x y).mpr c)
    by_cases r : lg_cmp x z ≤ nI 0
    · rw [if_pos r, b2i_t ⟨q1, (lg_le0 x z).mp r⟩]
    · rw [if_neg r, b2i_f (fun c => r ((lg_le0 x z).mpr c.2))]
theorem sp_isPlayer (p : Int32) (h : AH) : XX true 2 159 0 [.int (p)] [] (h) (some (.int (b2i (nI 0 ≤ p ∧ p ≤ nI 2))), h) := by
  refine wb_X12_isPlayer_0 ?_
  refine (cl_X12_isPlayer_6 rfl (by decide) (sp_in _ _ _ _)).mpr ?_
  refine wb_X12_isPlayer_9 ?_
  rw [lN_nI (by decide : 0 < 2 ^ 31), lN_nI (by decide : 2 < 2 ^ 31)]
  refine ⟨b2i_01 _, ?_⟩
  rw [b2i_cong (and_congr (toI64_le _ _) (toI64_le _ _))]
theorem sp_isPart (p : Int32) (h : AH) : XX true 2 179 0 [.int (p)] [] (h) (some (.int (b2i (nI 0 ≤ p ∧ p ≤ nI 1))), h) := by
  refine wb_X12_isPart_0 ?_
  refine (cl_X12_isPart_4 rfl (by decide) (sp_in _ _ _ _)).mpr ?_
  refine wb_X12_isPart_7 ?_
  rw [lN_nI (by decide : 0 < 2 ^ 31), lN_nI (by decide : 1 < 2 ^ 31)]
  refine ⟨b2i_01 _, ?_⟩
  rw [b2i_cong (and_congr (toI64_le _ _) (toI64_le _ _))]
theorem sp_isCardOut {k : Nat} (hk : k < 8) (h : AH) : XX true 1 163 0 [.int (nI k)] [] (h) (some (.int (b2i (isCd k))), h) := by
  refine wb_X12_isCardOut_0 ?_
  simp (disch := omega) only [nI_ltI, nI_leI, nI_eq, nI_add, nI_1, nI_clamp, ix_nI, in_nI, nI_subI, nI_mulI, nI_divI, nI_remI, nI_l, lN_le, lN_lt, lN_eq, lN_add, lN_mul]
  by_cases q : k = 0
  · rw [if_pos q, b2i_t (Or.inl q)]
    refine wb_X12_isCardOut_9 ?_
    rfl
  · rw [if_neg q]
    by_cases r : k = 1
    · rw [if_pos r, b2i_t (Or.inr r)]
      refine wb_X12_isCardOut_9 ?_
      rfl
    · rw [if_neg r, b2i_f (fun c => c.elim q r)]
theorem sp_isChoice {k : Nat} (hk : k < 2 ^ 31) (h : AH) : XX true 1 161 0 [.int (nI k)] [] (h) (some (.int (b2i (isChc k))), h) := by
  refine wb_X12_isChoice_0 ?_
  simp (disch := omega) only [nI_ltI, nI_leI, nI_eq, nI_add, nI_1, nI_clamp, ix_nI, in_nI, nI_subI, nI_mulI, nI_divI, nI_remI, nI_l, lN_le, lN_lt, lN_eq, lN_add, lN_mul]
  by_cases q : k = 2
  · rw [if_pos q, b2i_t (Or.inl q)]
    refine wb_X12_isChoice_10 ?_
    rfl
  · rw [if_neg q]
    by_cases r : k = 3
    · rw [if_pos r, b2i_t (Or.inr r)]
      refine wb_X12_isChoice_10 ?_
      rfl
    · rw [if_neg r, b2i_f (fun c => c.elim q r)]
theorem sp_isChance {k : Nat} (hk : k < 8) (h : AH) : XX true 1 182 0 [.int (nI k)] [] (h) (some (.int (b2i (isCha k))), h) := by
  refine wb_X12_isChance_0 ?_
  simp (disch := omega) only [nI_ltI, nI_leI, nI_eq, nI_add, nI_1, nI_clamp, ix_nI, in_nI, nI_subI, nI_mulI, nI_divI, nI_remI, nI_l, lN_le, lN_lt, lN_eq, lN_add, lN_mul]
  by_cases q : isCha k
  · rw [b2i_t q]
    repeat' split
    all_goals first | (refine wb_X12_isChance_21 ?_; rfl) | omega
  · rw [b2i_f q]
    repeat' split
    all_goals first | omega | rfl
theorem sp_hasNumber {k : Nat} (hk : k < 8) (h : AH) : XX true 2 160 0 [.int (nI k)] [] (h) (some (.int (b2i (hasN k))), h) := by
  refine wb_X12_hasNumber_0 ?_
  refine (cl_X12_hasNumber_1 rfl (by decide) (sp_isChoice (by omega) h)).mpr ?_
  refine wb_X12_hasNumber_4 ?_
  simp (disch := omega) only [nI_ltI, nI_leI, nI_eq, nI_add, nI_1, nI_clamp, ix_nI, in_nI, nI_subI, nI_mulI, nI_divI, nI_remI, nI_l, lN_le, lN_lt, lN_eq, lN_add, lN_mul]
  by_cases q : hasN k
  · rw [b2i_t q]
    by_cases r : isChc k
    · rw [b2i_t r, if_neg (by decide)]
      refine wb_X12_hasNumber_19 ?_
      rfl
    · rw [b2i_f r, if_pos rfl]
      repeat' split
      all_goals first | (refine wb_X12_hasNumber_19 ?_; rfl) | omega
  · rw [b2i_f q, b2i_f (fun c => q (c.elim Or.inl fun c => Or.inr (Or.inl c))), if_pos rfl]
    repeat' split
    all_goals first | omega | rfl
/-! the model's stages -/
def mS (c n : Nat) (K P B : Nat → Nat) (h : AH) : Prop := okS c n K P B ∧ hI h 153 0 = nI c ∧ hI h 153 2 = nI n ∧ ∀ i, i < n → hI h 155 i = nI (K i) ∧ hI h 156 i = nI (P i) ∧ hI h 157 i = nI (B i)
section S22
variable {c n : Nat} {K P B : Nat → Nat} {h h' : AH}
theorem mS.cc (s : mS c n K P B h) : hI h 153 0 = nI c := s.2.1
theorem mS.nn (s : mS c n K P B h) : hI h 153 2 = nI n := s.2.2.1
theorem mS.KK (s : mS c n K P B h) {i : Nat} (hi : i < n) : hI h 155 i = nI (K i) := (s.2.2.2 i hi).1
theorem mS.PP (s : mS c n K P B h) {i : Nat} (hi : i < n) : hI h 156 i = nI (P i) := (s.2.2.2 i hi).2.1
theorem mS.BB (s : mS c n K P B h) {i : Nat} (hi : i < n) : hI h 157 i = nI (B i) := (s.2.2.2 i hi).2.2
theorem mS.c5 (s : mS c n K P B h) : 1 ≤ c ∧ c ≤ 5 := ⟨s.1.1, s.1.2.1⟩
theorem mS.n6 (s : mS c n K P B h) : n ≤ 6 := s.1.2.2.1
theorem mS.ok (s : mS c n K P B h) {i : Nat} (hi : i < n) : K i < 8 ∧ P i < 3 ∧ (hasN (K i) → B i = 2 ∨ B i = 3) ∧ (¬ hasN (K i) → B i = 0) ∧ (isCd (K i) → v_out K i < c) := s.1.2.2.2 i hi
theorem mS.fr (s : mS c n K P B h) {L : List (Nat × Option Nat)} (f : fr L h h') (q : subS L [(158, none), (159, none), (160, none), (161, none), (162, none), (163, none), (164, none), (165, none), (166, none), (167, none), (168, none), (169, none), (170, none), (171, none), (172, none), (173, none), (174, none), (175, none), (176, none), (177, none), (178, none), (179, none), (180, none), (154, none), (153, some 6), (153, some 8), (153, some 10), (153, some 14), (153, some 16), (153, some 19), (153, some 23), (153, some 25), (153, some 26), (153, some 27), (153, some 28), (153, some 29), (153, some 40), (153, some 42), (153, some 43), (153, some 44)] = true) : mS c n K P B h' := by
  have g := f.mono q
  refine ⟨s.1, (g.I rfl).trans s.cc, (g.I rfl).trans s.nn, fun i hi => ⟨(g.I rfl).trans (s.KK hi), (g.I rfl).trans (s.PP hi), (g.I rfl).trans (s.BB hi)⟩⟩
theorem nI_B {a : Nat} (h : a < 100) : a < 2 ^ 31 := by omega
theorem sp_isStage (s : mS c n K P B h) (i : Int32) : XX true 2 167 0 [.ref 153, .int (i)] [] (h) (some (.int (b2i (nI 0 ≤ i ∧ i < nI n))), h) := by
  have h6 := s.n6
  refine wb_X12_isStage_0 ?_
  refine (cl_X12_isStage_10 rfl (by decide) (sp_in _ _ _ _)).mpr ?_
  refine wb_X12_isStage_13 ?_
  refine ⟨b2i_01 _, ?_⟩
  rw [s.nn, lN_nI (by decide : 0 < 2 ^ 31)]
  rw [b2i_cong (and_congr (toI64_le _ _) (toI64_le _ _))]
  have e : i ≤ nI n - nI 1 ↔ i < nI n := by
    rw [Int32.le_iff_toInt_le, Int32.lt_iff_toInt_lt]
    have h1 : ∀ n, n < 7 → (nI n - nI 1).toInt = (nI n).toInt - 1 := by decide
    rw [h1 n (by omega)]
    omega
  rw [b2i_cong (and_congr Iff.rfl e)]
theorem sp_isBehind (s : mS c n K P B h) (i : Int32) : XX true 2 170 0 [.ref 153, .int (i)] [] (h) (some (.int (b2i (nI 0 ≤ i ∧ i ≤ nI n))), h) := by
  refine wb_X12_isBehind_0 ?_
  refine (cl_X12_isBehind_8 rfl (by decide) (sp_in _ _ _ _)).mpr ?_
  refine wb_X12_isBehind_11 ?_
  refine ⟨b2i_01 _, ?_⟩
  rw [s.nn, lN_nI (by decide : 0 < 2 ^ 31)]
  rw [b2i_cong (and_congr (toI64_le _ _) (toI64_le _ _))]
theorem sp_outAhead (s : mS c n K P B h) {i : Nat} (hi : i ≤ n) : XX true 2 164 0 [.ref 153, .int (nI i), ax_junk, ax_junk] [] (h) (some (.int (nI (v_out K i))), h) := by
  have h6 := s.n6
  have lp : ∀ k j, j + k = i → XX true 2 164 4 [.ref 153, .int (nI i), .int (nI (v_out K j)), .int (nI j)] [] (h) ((some (.int (nI (v_out K i))), h)) := by
    intro k
    induction k with
    | zero =>
      intro j hj
      obtain rfl : j = i := hj
      refine wb_X12_outAhead_4 ?_
      simp (disch := omega) only [nI_ltI, nI_leI, nI_eq, nI_add, nI_1, nI_clamp, ix_nI, in_nI, nI_subI, nI_mulI, nI_divI, nI_remI, nI_l, lN_le, lN_lt, lN_eq, lN_add, lN_mul]
      rw [if_neg (Nat.lt_irrefl _)]
      trivial
    | succ k ih =>
      intro j hj
      refine wb_X12_outAhead_4 ?_
      simp (disch := omega) only [nI_ltI, nI_leI, nI_eq, nI_add, nI_1, nI_clamp, ix_nI, in_nI, nI_subI, nI_mulI, nI_divI, nI_remI, nI_l, lN_le, lN_lt, lN_eq, lN_add, lN_mul]
      rw [if_pos (by omega)]
      refine ⟨trivial, ?_⟩
      rw [s.KK (by omega)]
      refine (cl_X12_outAhead_16 rfl (by decide) (sp_isCardOut (s.ok (by omega)).1 h)).mpr ?_
      refine wb_X12_outAhead_19 ?_
      have e : v_out K (j + 1) = v_out K j + (if isCd (K j) then 1 else 0) := rfl
      have g := ih (j + 1) (by omega)
      rw [e] at g
      by_cases q : isCd (K j)
      · rw [b2i_t q, if_neg (by decide)]
        rw [if_pos q] at g
        refine wb_X12_outAhead_27 ?_
        simp (disch := omega) only [nI_ltI, nI_leI, nI_eq, nI_add, nI_1, nI_clamp, ix_nI, in_nI, nI_subI, nI_mulI, nI_divI, nI_remI, nI_l, lN_le, lN_lt, lN_eq, lN_add, lN_mul]
        exact g
      · rw [b2i_f q, if_pos rfl]
        rw [if_neg q] at g
        refine wb_X12_outAhead_27 ?_
        simp (disch := omega) only [nI_ltI, nI_leI, nI_eq, nI_add, nI_1, nI_clamp, ix_nI, in_nI, nI_subI, nI_mulI, nI_divI, nI_remI, nI_l, lN_le, lN_lt, lN_eq, lN_add, lN_mul]
        exact g
  refine wb_X12_outAhead_0 ?_
  exact lp i 0 (by omega)
end S22
