/-! THE CLASS: its table: stages, ways, views -/
def outS (lo hi : Nat) (L : List (Nat × Option Nat)) : Bool := L.all fun p => decide (p.1 < lo) || decide (hi ≤ p.1)
theorem outS_in {lo hi : Nat} {L : List (Nat × Option Nat)} (q : outS lo hi L = true) {a : Nat} (h1 : lo ≤ a) (h2 : a < hi) (j : Nat) : inS L a j = false := by
  rw [inS_any, List.any_eq_false]
  intro p hp c
  have h := List.all_eq_true.mp q p hp
  simp only [Bool.or_eq_true, decide_eq_true_eq, Bool.and_eq_true, beq_iff_eq] at h c
  omega
def loS (L : List (Nat × Option Nat)) : Bool := L.all fun p => decide (p.1 < 168)
theorem loS_in {L : List (Nat × Option Nat)} (q : loS L = true) {a : Nat} (h1 : 168 ≤ a) (j : Nat) : inS L a j = false := by
  rw [inS_any, List.any_eq_false]
  intro p hp c
  have h := List.all_eq_true.mp q p hp
  simp only [decide_eq_true_eq, Bool.and_eq_true, beq_iff_eq] at h c
  omega
theorem rd_dyn {a : Nat} (h : AH) (ha : 168 ≤ a) (j : Nat) : ax_rd true h a j = h.1 a j := by
  unfold ax_rd
  rw [if_neg (by omega)]
  have e : ax_cfL.getD (a - 64) [] = [] := by
    rw [List.getD_eq_getElem?_getD, List.getElem?_eq_none (by have : ax_cfL.length = 104 := by decide +kernel
                                                              omega)]
    rfl
  rw [e]
  simp
theorem ty_dyn {a : Nat} (h : AH) (ha : 168 ≤ a) : ax_ty h a = ax_dty (h.2.1 a) := by
  unfold ax_ty
  rw [if_neg (by omega), if_neg (by omega), if_neg (by omega), if_neg (by omega)]
theorem fr.R {L : List (Nat × Option Nat)} {h h' : AH} (f : fr L h h') {a j : Nat} (q : inS L a j = false) : hR h' a j = hR h a j := congrArg toR (f.2 a j q)
/-- a stage object: kind, player, number -/
def sO (h : AH) (a k p b : Nat) : Prop := 168 ≤ a ∧ a < h.2.2.1 ∧ h.2.1 a = 6 ∧ hR h a 0 = rf k ∧ hI h a 1 = nI p ∧ hI h a 2 = nI b
theorem sO.fr {h h' : AH} {a k p b : Nat} (s : sO h a k p b) {L : List (Nat × Option Nat)} (f : fr L h h') (q : loS L = true) : sO h' a k p b := ⟨s.1, by rw [f.1]; exact s.2.1, by rw [f.1]; exact s.2.2.1, (f.R (loS_in q s.1 0)).trans s.2.2.2.1, (f.I (loS_in q s.1 1)).trans s.2.2.2.2.1, (f.I (loS_in q s.1 2)).trans s.2.2.2.2.2⟩
theorem sO.o {h : AH} {a k p b : Nat} (s : sO h a k p b) : dO h a 6 := ⟨by have := s.1; omega, by rw [ty_dyn h s.1, s.2.2.1]; rfl, by unfold ax_ok; have := s.2.1; simp [this]⟩
theorem sO.k {h : AH} {a k p b : Nat} (s : sO h a k p b) : gR h a 0 = rf k := by unfold gR; rw [rd_dyn h s.1]; exact s.2.2.2.1
theorem sO.p {h : AH} {a k p b : Nat} (s : sO h a k p b) : gI h a 1 = nI p := by unfold gI; rw [rd_dyn h s.1]; exact s.2.2.2.2.1
theorem sO.b {h : AH} {a k p b : Nat} (s : sO h a k p b) : gI h a 2 = nI b := by unfold gI; rw [rd_dyn h s.1]; exact s.2.2.2.2.2
theorem sO.n9 {h : AH} {a k p b : Nat} (s : sO h a k p b) : a ≠ 9 := by have := s.1; omega
/-- a kind's object -/
theorem kO : ∀ k, k < 8 → ∀ h : AH, dO h k 12
  | 0, _, _ => ⟨by decide, rfl, rfl⟩ | 1, _, _ => ⟨by decide, rfl, rfl⟩ | 2, _, _ => ⟨by decide, rfl, rfl⟩ | 3, _, _ => ⟨by decide, rfl, rfl⟩ | 4, _, _ => ⟨by decide, rfl, rfl⟩ | 5, _, _ => ⟨by decide, rfl, rfl⟩ | 6, _, _ => ⟨by decide, rfl, rfl⟩ | 7, _, _ => ⟨by decide, rfl, rfl⟩
  | n + 8, h, _ => absurd h (by omega)
theorem k_hasP : ∀ k, k < 8 → ∀ h : AH, gI h k 1 = b2i (¬ (k = 1 ∨ k = 6))
  | 0, _, _ => rfl | 1, _, _ => rfl | 2, _, _ => rfl | 3, _, _ => rfl | 4, _, _ => rfl | 5, _, _ => rfl | 6, _, _ => rfl | 7, _, _ => rfl
  | n + 8, h, _ => absurd h (by omega)
theorem k_hasN : ∀ k, k < 8 → ∀ h : AH, gI h k 2 = b2i (hasN k)
  | 0, _, _ => rfl | 1, _, _ => rfl | 2, _, _ => rfl | 3, _, _ => rfl | 4, _, _ => rfl | 5, _, _ => rfl | 6, _, _ => rfl | 7, _, _ => rfl
  | n + 8, h, _ => absurd h (by omega)
theorem sp_kCard {k : Nat} (hk : k < 8) (h : AH) : XX true 1 62 0 [rf (k)] [] (h) (some (.int (b2i (isCd k))), h) := by
  refine wb_X2_isCard_0 ?_
  refine ⟨hk, ?_⟩
  by_cases q : k = 0
  · rw [if_pos q, b2i_t (Or.inl q)]
    refine wb_X2_isCard_14 ?_
    rfl
  · rw [if_neg q]
    refine ⟨hk, ?_⟩
    by_cases r : k = 1
    · rw [if_pos r, b2i_t (Or.inr r)]
      refine wb_X2_isCard_14 ?_
      rfl
    · rw [if_neg r, b2i_f (fun c => c.elim q r)]
theorem sp_kChoice {k : Nat} (hk : k < 8) (h : AH) : XX true 1 29 0 [rf (k)] [] (h) (some (.int (b2i (isChc k))), h) := by
  refine wb_X2_isChoice_0 ?_
  refine ⟨hk, ?_⟩
  by_cases q : k = 2
  · rw [if_pos q, b2i_t (Or.inl q)]
    refine wb_X2_isChoice_14 ?_
    rfl
  · rw [if_neg q]
    refine ⟨hk, ?_⟩
    by_cases r : k = 3
    · rw [if_pos r, b2i_t (Or.inr r)]
      refine wb_X2_isChoice_14 ?_
      rfl
    · rw [if_neg r, b2i_f (fun c => c.elim q r)]
theorem sp_kSecret {k : Nat} (hk : k < 8) (h : AH) : XX true 1 102 0 [rf (k)] [] (h) (some (.int (b2i (isSec k))), h) := by
  have y : isSec k → XX true 1 102 21 [ax_junk] [] (h) ((some (.int (b2i (isSec k))), h)) := by
    intro z
    rw [b2i_t z]
    refine wb_X2_isSecret_21 ?_
    rfl
  refine wb_X2_isSecret_0 ?_
  refine ⟨hk, ?_⟩
  by_cases q : k = 0
  · rw [if_pos q]
    exact y (Or.inl q)
  · rw [if_neg q]
    refine ⟨hk, ?_⟩
    by_cases r : k = 3
    · rw [if_pos r]
      exact y (Or.inr (Or.inl r))
    · rw [if_neg r]
      refine ⟨hk, ?_⟩
      by_cases t : k = 7
      · rw [if_pos t]
        exact y (Or.inr (Or.inr t))
      · rw [if_neg t, b2i_f (fun c => c.elim q (fun c => c.elim r t))]
theorem sp_kChance {k : Nat} (hk : k < 8) (h : AH) : XX true 2 61 0 [rf (k)] [] (h) (some (.int (b2i (isCha k))), h) := by
  have y : isCha k → XX true 2 61 21 [ax_junk] [] (h) ((some (.int (b2i (isCha k))), h)) := by
    intro z
    rw [b2i_t z]
    refine wb_X2_isChance_21 ?_
    rfl
  refine wb_X2_isChance_0 ?_
  refine cl_X2_isChance_1 rfl (by decide) (sp_kCard hk h) ?_
  refine ⟨kO k hk h, ?_⟩
  refine wb_X2_isChance_4 ?_
  by_cases q : isCd k
  · rw [b2i_t q, if_neg (by decide)]
    exact y (q.elim Or.inl (fun z => Or.inr (Or.inl z)))
  · rw [b2i_f q, if_pos rfl]
    refine ⟨hk, ?_⟩
    by_cases r : k = 6
    · rw [if_pos r]
      exact y (Or.inr (Or.inr (Or.inl r)))
    · rw [if_neg r]
      refine ⟨hk, ?_⟩
      by_cases t : k = 7
      · rw [if_pos t]
        exact y (Or.inr (Or.inr (Or.inr t)))
      · rw [if_neg t, b2i_f (fun c => c.elim (fun z => q (Or.inl z)) (fun c => c.elim (fun z => q (Or.inr z)) (fun c => c.elim r t)))]
/-- a table: o = 0 the game's, o = 29 the kept one's -/
def tS (o c n : Nat) (K P B S : Nat → Nat) (h : AH) : Prop := okS c n K P B ∧ 168 ≤ h.2.2.1 ∧ hI h (66 + o) 0 = nI c ∧ hI h (66 + o) 3 = nI n ∧ (∀ i, i < n → hR h (68 + o) i = rf (S i) ∧ sO h (S i) (K i) (P i) (B i)) ∧ (∀ i, i < n → hI h (69 + o) i = nI (v_opt c K B i)) ∧ (∀ i, i ≤ n → hI h (70 + o) i = nI (v_ways c K B i)) ∧ (∀ i, i < n → ∀ w, w < v_ways c K B (i + 1) → hI h (80 + o + i) w = nI (v_evt c K B i w)) ∧ (∀ j, j ≤ n → ∀ i, i < j → hI h (72 + o + j) i = nI (v_seen K P i j))
section S55
variable {c n : Nat} {K P B S : Nat → Nat} {h h' : AH}
theorem tS.ok {o : Nat} (s : tS o c n K P B S h) : okS c n K P B := s.1
theorem tS.al {o : Nat} (s : tS o c n K P B S h) : 168 ≤ h.2.2.1 := s.2.1
theorem tS.cc {o : Nat} (s : tS o c n K P B S h) : hI h (66 + o) 0 = nI c := s.2.2.1
theorem tS.nn {o : Nat} (s : tS o c n K P B S h) : hI h (66 + o) 3 = nI n := s.2.2.2.1
theorem tS.st {o : Nat} (s : tS o c n K P B S h) : ∀ i, i < n → hR h (68 + o) i = rf (S i) ∧ sO h (S i) (K i) (P i) (B i) := s.2.2.2.2.1
theorem tS.fan {o : Nat} (s : tS o c n K P B S h) : ∀ i, i < n → hI h (69 + o) i = nI (v_opt c K B i) := s.2.2.2.2.2.1
theorem tS.beh {o : Nat} (s : tS o c n K P B S h) : ∀ i, i ≤ n → hI h (70 + o) i = nI (v_ways c K B i) := s.2.2.2.2.2.2.1
theorem tS.bef {o : Nat} (s : tS o c n K P B S h) : ∀ i, i < n → ∀ w, w < v_ways c K B (i + 1) → hI h (80 + o + i) w = nI (v_evt c K B i w) := s.2.2.2.2.2.2.2.1
theorem tS.see {o : Nat} (s : tS o c n K P B S h) : ∀ j, j ≤ n → ∀ i, i < j → hI h (72 + o + j) i = nI (v_seen K P i j) := s.2.2.2.2.2.2.2.2
theorem tS.n6 {o : Nat} (s : tS o c n K P B S h) : n ≤ 6 := s.ok.2.2.1
theorem tS.c5 {o : Nat} (s : tS o c n K P B S h) : 1 ≤ c ∧ c ≤ 5 := ⟨s.ok.1, s.ok.2.1⟩
theorem tS.kk {o : Nat} (s : tS o c n K P B S h) {i : Nat} (hi : i < n) : K i < 8 ∧ P i < 3 ∧ (hasN (K i) → B i = 2 ∨ B i = 3) ∧ (¬ hasN (K i) → B i = 0) ∧ (isCd (K i) → v_out K i < c) := s.ok.2.2.2 i hi
theorem tS.fr {o : Nat} (s : tS o c n K P B S h) {L : List (Nat × Option Nat)} (f : fr L h h') (q1 : outS (66 + o) (86 + o) L = true) (q2 : loS L = true) : tS o c n K P B S h' := by
  have h6 := s.n6
  refine ⟨s.ok, by rw [f.1]; exact s.al, (f.I (outS_in q1 (by omega) (by omega) _)).trans s.cc, (f.I (outS_in q1 (by omega) (by omega) _)).trans s.nn, fun i hi => ⟨(f.R (outS_in q1 (by omega) (by omega) _)).trans (s.st i hi).1, (s.st i hi).2.fr f q2⟩, fun i hi => (f.I (outS_in q1 (by omega) (by omega) _)).trans (s.fan i hi), fun i hi => (f.I (outS_in q1 (by omega) (by omega) _)).trans (s.beh i hi), fun i hi w hw => (f.I (outS_in q1 (by omega) (by omega) _)).trans (s.bef i hi w hw), fun j hj i hi => (f.I (outS_in q1 (by omega) (by omega) _)).trans (s.see j hj i hi)⟩
/-- what happened lies there -/
def okX (o : Nat) (h : AH) (j : Nat) (e : Nat → Nat) : Prop := ∀ i, i < j → hI h (86 + o) i = nI (e i)
theorem row71 : ∀ j, j < 7 → ∀ h : AH, toR (ax_rd true h 71 j) = rf (72 + j) ∧ dA h (72 + j) 6 ∧ (∀ x, gI h (72 + j) x = hI h (72 + j) x) ∧ (∀ x, ax_wok true (72 + j) x = true)
  | 0, _, _ => ⟨rfl, ⟨by decide, rfl, rfl⟩, fun _ => rfl, fun _ => rfl⟩ | 1, _, _ => ⟨rfl, ⟨by decide, rfl, rfl⟩, fun _ => rfl, fun _ => rfl⟩ | 2, _, _ => ⟨rfl, ⟨by decide, rfl, rfl⟩, fun _ => rfl, fun _ => rfl⟩ | 3, _, _ => ⟨rfl, ⟨by decide, rfl, rfl⟩, fun _ => rfl, fun _ => rfl⟩ | 4, _, _ => ⟨rfl, ⟨by decide, rfl, rfl⟩, fun _ => rfl, fun _ => rfl⟩ | 5, _, _ => ⟨rfl, ⟨by decide, rfl, rfl⟩, fun _ => rfl, fun _ => rfl⟩ | 6, _, _ => ⟨rfl, ⟨by decide, rfl, rfl⟩, fun _ => rfl, fun _ => rfl⟩
  | n + 7, h, _ => absurd h (by omega)
theorem row79 : ∀ j, j < 6 → ∀ h : AH, toR (ax_rd true h 79 j) = rf (80 + j) ∧ dA h (80 + j) 1620 ∧ (∀ x, gI h (80 + j) x = hI h (80 + j) x) ∧ (∀ x, ax_wok true (80 + j) x = true)
  | 0, _, _ => ⟨rfl, ⟨by decide, rfl, rfl⟩, fun _ => rfl, fun _ => rfl⟩ | 1, _, _ => ⟨rfl, ⟨by decide, rfl, rfl⟩, fun _ => rfl, fun _ => rfl⟩ | 2, _, _ => ⟨rfl, ⟨by decide, rfl, rfl⟩, fun _ => rfl, fun _ => rfl⟩ | 3, _, _ => ⟨rfl, ⟨by decide, rfl, rfl⟩, fun _ => rfl, fun _ => rfl⟩ | 4, _, _ => ⟨rfl, ⟨by decide, rfl, rfl⟩, fun _ => rfl, fun _ => rfl⟩ | 5, _, _ => ⟨rfl, ⟨by decide, rfl, rfl⟩, fun _ => rfl, fun _ => rfl⟩
  | n + 6, h, _ => absurd h (by omega)
theorem sp_t_at (s : tS 0 c n K P B S h) (i : Int32) : XX true 1 28 0 [.ref 66, .int (i)] [] (h) (some (rf (if isLt n i then S (ix i) else 9)), h) := by
  have h6 := s.n6
  refine wb_X8_at_0 ?_
  by_cases q : i < nI 0
  · rw [if_pos q, if_neg (fun z => absurd z.1 (Int32.not_le.mpr q))]
  · rw [if_neg q, s.nn]
    by_cases r : i < nI n
    · have l : isLt n i := ⟨Int32.not_lt.mp q, r⟩
      rw [if_pos r, if_pos l]
      obtain ⟨k, hk, rfl⟩ := l.ex (by omega)
      rw [ix_nI (by omega)]
      exact ⟨in_nI (by omega) (by decide), S k, (s.st k hk).1, rfl⟩
    · rw [if_neg r, if_neg (fun z => r z.2)]
theorem sp_t_atN (s : tS 0 c n K P B S h) {i : Nat} (hi : i < n) : XX true 1 28 0 [.ref 66, .int (nI i)] [] (h) (some (rf (S i)), h) := by
  have h6 := s.n6
  have g := sp_t_at s (nI i)
  rw [if_pos ((isLt_nI (by omega) (by omega)).mpr hi), ix_nI (by omega)] at g
  exact g
theorem sp_t_hasRoom (s : tS 0 c n K P B S h) : XX true 1 93 0 [.ref 66] [] (h) (some (.int (b2i (n < 6))), h) := by
  have h6 := s.n6
  refine wb_X8_hasRoom_0 ?_
  rw [s.nn]
  by_cases q : n < 6
  · rw [if_pos (nI_lt q (by omega)), b2i_t q]
  · rw [if_neg (nI_nlt (by omega) (by omega)), b2i_f q]
theorem sp_t_isCardAt (s : tS 0 c n K P B S h) {i : Nat} (hi : i < n) : XX true 2 96 0 [.ref 66, .int (nI i), ax_junk] [] (h) (some (.int (b2i (isCd (K i)))), h) := by
  have g := (s.st i hi).2
  refine wb_X8_isCardAt_0 ?_
  refine cl_X8_isCardAt_2 rfl (by decide) (sp_t_atN s hi) ?_
  refine wb_X8_isCardAt_5 ?_
  rw [if_neg g.n9]
  refine ⟨g.o, K i, g.k, ?_⟩
  refine cl_X8_isCardAt_14 rfl (by decide) (sp_kCard (s.kk hi).1 h) ?_
  refine ⟨kO _ (s.kk hi).1 h, ?_⟩
  refine wb_X8_isCardAt_17 ?_
  by_cases q : isCd (K i)
  · rw [b2i_t q, if_neg (by decide)]
  · rw [b2i_f q, if_pos rfl]
theorem sp_t_cardsLeft (s : tS 0 c n K P B S h) : XX true 3 95 0 [.ref 66, ax_junk, ax_junk] [] (h) (some (.int (nI (c - v_out K n))), h) := by
  have h6 := s.n6
  have h5 := s.c5
  have lp : ∀ k i, i + k = n → XX true 3 95 7 [.ref 66, .int (nI (c - v_out K i)), .int (nI i)] [] (h) ((some (.int (nI (c - v_out K n))), h)) := by
    intro k
    induction k with
    | zero =>
      intro i hi
      obtain rfl : i = n := hi
      refine wb_X8_cardsLeft_7 ?_
      rw [s.nn, if_neg (nI_nlt (Nat.le_refl _) (by omega))]
    | succ k ih =>
      intro i hi
      have oc := v_out_c s.ok (i + 1) (by omega)
      have g := ih (i + 1) (by omega)
      have e : v_out K (i + 1) = v_out K i + (if isCd (K i) then 1 else 0) := rfl
      refine wb_X8_cardsLeft_7 ?_
      rw [s.nn, if_pos (nI_lt (by omega) (by omega))]
      refine cl_X8_cardsLeft_17 rfl (by decide) (sp_t_isCardAt s (by omega)) ?_
      refine wb_X8_cardsLeft_20 ?_
      by_cases q : isCd (K i)
      · rw [b2i_t q, if_neg (by decide)]
        rw [e, if_pos q] at g oc
        refine wb_X8_cardsLeft_26 ?_
        rw [nI_s, nI_dec, show nI 1 = nI (0 + 1) by rfl, nI_subI (by omega), show c - v_out K i - (0 + 1) = c - (v_out K i + 1) by omega]
        exact g
      · rw [b2i_f q, if_pos rfl]
        rw [e, if_neg q] at g
        refine wb_X8_cardsLeft_26 ?_
        rw [nI_s]
        exact g
  refine wb_X8_cardsLeft_0 ?_
  rw [s.cc]
  exact lp n 0 (by omega)
theorem sp_t_hasCardFor (s : tS 0 c n K P B S h) {k : Nat} (hk : k < 8) : XX true 4 94 0 [.ref 66, rf (k)] [] (h) (some (.int (b2i (isCd k → v_out K n < c))), h) := by
  have h5 := s.c5
  have oc := v_out_c s.ok n (Nat.le_refl _)
  refine wb_X8_hasCardFor_0 ?_
  refine cl_X8_hasCardFor_1 rfl (by decide) (sp_kCard hk h) ?_
  refine ⟨kO k hk h, ?_⟩
  refine wb_X8_hasCardFor_4 ?_
  by_cases q : isCd k
  · rw [b2i_t q, if_neg (by decide)]
    refine cl_X8_hasCardFor_8 rfl (by decide) (sp_t_cardsLeft s) ?_
    refine wb_X8_hasCardFor_11 ?_
    by_cases r : v_out K n < c
    · rw [if_neg (nI_p (by omega) (by omega)), b2i_t (fun _ => r)]
      refine wb_X8_hasCardFor_14 ?_
      rfl
    · rw [if_pos (by rw [show c - v_out K n = 0 by omega]; decide), b2i_f (fun z => r (z q))]
  · rw [b2i_f q, if_pos rfl, b2i_t (fun z => absurd z q)]
    refine wb_X8_hasCardFor_14 ?_
    rfl
/-- a way's events, from the last stage on -/
theorem sp_t_go (s : tS 0 c n K P B S h) {j : Nat} (hj : j ≤ n) {w : Nat} (hw : w < v_ways c K B j) : ∃ h', XX true 1 14 0 [.ref 66, .int (nI w), .int (nI j), ax_junk, ax_junk] [] (h) (none, h') ∧ fr [(86, none)] h h' ∧ okX 0 h' j (v_what c K B j w) := by
  have h6 := s.n6
  have lp : ∀ k, k ≤ j → ∀ h1, fr [(86, none)] h h1 → (∀ i, k ≤ i → i < j → hI h1 86 i = nI (v_what c K B j w i)) → ∃ h', XX true 1 14 7 [.ref 66, ax_junk, ax_junk, .int (nI (v_pre c K B j w k)), .int (nI k - nI 1)] [] (h1) ((none, h')) ∧ fr [(86, none)] h h' ∧ okX 0 h' j (v_what c K B j w) := by
    intro k
    induction k with
    | zero =>
      intro _ h1 f o
      refine ⟨h1, ?_, f, fun i hi => o i (Nat.zero_le _) hi⟩
      refine wb_X8_go_7 ?_
      rw [if_pos (by decide)]
    | succ k ih =>
      intro hk h1 f o
      have s1 : tS 0 c n K P B S h1 := s.fr f rfl rfl
      have lt := v_pre_lt s.ok hj hw (j - (k + 1)) (k + 1) (by omega)
      have le := v_ways_le s.ok (j := k + 1) (by omega)
      have op := v_opt_pos s.ok (i := k) (by omega)
      have f2 : fr [(86, none)] h (ax_wr h1 86 k (.int (nI (v_what c K B j w k)))) := f.wr' (by simp [inS])
      obtain ⟨h', x, y⟩ := ih (by omega) _ f2 (fun i hi hij => by
        by_cases q : i = k
        · subst q
          exact wr_I _ _ _ _
        · rw [wr_Ij q]
          exact o i (by omega) hij)
      refine ⟨h', ?_, y⟩
      have rw1 := row79 k (by omega) h1
      rw [nI_subI (by omega), Nat.add_sub_cancel]
      refine wb_X8_go_7 ?_
      rw [if_neg (nI_n0 (by omega)), if_neg (nI_n0 (by omega)), if_pos (nI_lt (by omega) (by omega)), ix_nI (by omega), ix_nI (by omega)]
      refine ⟨in_nI (by omega) (by decide), 80 + k, rw1.1, 1620, rw1.2.1, in_nI (by omega) (by decide), ?_⟩
      rw [rw1.2.2.1, s1.bef k (by omega) _ lt, ← v_what_pre c K B j w k (by omega)]
      refine wb_X8_go_42 ?_
      rw [ix_nI (by omega), wr_Ia (by decide), s1.fan k (by omega)]
      refine ⟨in_nI (by omega) (by decide), in_nI (by omega) (by decide), ?_⟩
      have e : (if nI 1 < nI (v_opt c K B k) then nI (v_opt c K B k) else nI 1) = nI (v_opt c K B k) := by
        by_cases z : v_opt c K B k = 1
        · rw [z]; rfl
        · rw [if_pos (nI_lt (by omega) (by omega))]
      rw [e]
      refine ⟨by simp; exact nI_ne0 op.1 (by omega), ?_⟩
      rw [nI_divI (by omega) (by omega), ← v_pre_step c K B j w k (by omega), nI_dec]
      exact x
  obtain ⟨h', x, y⟩ := lp j (Nat.le_refl _) h fr.rfl' (fun i h1 h2 => absurd h2 (by omega))
  refine ⟨h', ?_, y⟩
  rw [v_pre_self] at x
  refine wb_X8_go_0 ?_
  exact x
end S55
