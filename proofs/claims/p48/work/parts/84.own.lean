/-! THE LAW's OWN GAME: frames, arrays made later, what it holds; seen, view and small ones -/
/-- of the old cells only those of X may be others, at most k more are made -/
def fy (k : Nat) (X : Nat → Prop) (h h' : AH) : Prop := h.2.2.1 ≤ h'.2.2.1 ∧ h'.2.2.1 ≤ h.2.2.1 + k ∧ h'.2.2.2.1 ≤ h.2.2.2.1 + k ∧ h'.2.2.2.2 = h.2.2.2.2 ∧ (∀ a, a < h.2.2.1 → h'.2.1 a = h.2.1 a) ∧ ∀ a j, a < h.2.2.1 → ¬ X a → h'.1 a j = h.1 a j
section FY
variable {k k' : Nat} {X Y : Nat → Prop} {h h1 h2 h' : AH}
theorem fy.rf (X : Nat → Prop) (h : AH) : fy 0 X h h := ⟨Nat.le_refl _, Nat.le_refl _, Nat.le_refl _, rfl, fun _ _ => rfl, fun _ _ _ _ => rfl⟩
theorem fy.mono (f : fy k X h h') (hX : ∀ a, X a → Y a) (hk : k ≤ k') : fy k' Y h h' := ⟨f.1, Nat.le_trans f.2.1 (by omega), Nat.le_trans f.2.2.1 (by omega), f.2.2.2.1, f.2.2.2.2.1, fun a j ha q => f.2.2.2.2.2 a j ha fun z => q (hX a z)⟩
/-- what is changed behind it was changed, or is new -/
theorem fy.trans (f : fy k X h h1) (g : fy k' Y h1 h2) (hY : ∀ a, Y a → X a ∨ h.2.2.1 ≤ a) : fy (k + k') X h h2 := by
  refine ⟨Nat.le_trans f.1 g.1, ?_, ?_, g.2.2.2.1.trans f.2.2.2.1, fun a ha => ?_, fun a j ha q => ?_⟩
  · have := f.2.1; have := g.2.1; omega
  · have := f.2.2.1; have := g.2.2.1; omega
  · exact (g.2.2.2.2.1 a (Nat.lt_of_lt_of_le ha f.1)).trans (f.2.2.2.2.1 a ha)
  · exact (g.2.2.2.2.2 a j (Nat.lt_of_lt_of_le ha f.1) (fun z => by rcases hY a z with y | y; exact q y; omega)).trans (f.2.2.2.2.2 a j ha q)
theorem fy.V (f : fy k X h h') {a j : Nat} (ha : a < h.2.2.1) (q : ¬ X a) : h'.1 a j = h.1 a j := f.2.2.2.2.2 a j ha q
theorem fy.I (f : fy k X h h') {a j : Nat} (ha : a < h.2.2.1) (q : ¬ X a) : hI h' a j = hI h a j := congrArg toI (f.V ha q)
theorem fy.L (f : fy k X h h') {a j : Nat} (ha : a < h.2.2.1) (q : ¬ X a) : hL h' a j = hL h a j := congrArg toL (f.V ha q)
theorem fy.R (f : fy k X h h') {a j : Nat} (ha : a < h.2.2.1) (q : ¬ X a) : hR h' a j = hR h a j := congrArg toR (f.V ha q)
theorem fy.wr (f : fy k X h h1) {a j : Nat} {v : Value} (q : X a ∨ h.2.2.1 ≤ a) : fy k X h (ax_wr h1 a j v) := ⟨f.1, f.2.1, f.2.2.1, f.2.2.2.1, f.2.2.2.2.1, fun b i hb z => by
  show (if b = a ∧ i = j then v else h1.1 b i) = _
  rw [if_neg (fun y => by rcases q with q | q; exact z (y.1 ▸ q); omega)]
  exact f.2.2.2.2.2 b i hb z⟩
theorem fy.mk (f : fy k X h h1) {c len : Nat} {g : Nat → Value} : fy (k + (len + 1)) X h (ax_mk h1 c len g) := by
  have e1 := f.1
  refine ⟨by show h.2.2.1 ≤ h1.2.2.1 + 1; omega, by have := f.2.1; show h1.2.2.1 + 1 ≤ _; omega, by have := f.2.2.1; show h1.2.2.2.1 + len ≤ _; omega, f.2.2.2.1, fun a ha => ?_, fun a j ha q => ?_⟩
  · show (if a = h1.2.2.1 then c else h1.2.1 a) = _
    rw [if_neg (by omega)]
    exact f.2.2.2.2.1 a ha
  · show (if a = h1.2.2.1 then g j else h1.1 a j) = _
    rw [if_neg (by omega)]
    exact f.2.2.2.2.2 a j ha q
theorem fr.y {L : List (Nat × Option Nat)} (f : fr L h h') : fy 0 (fun a => ∃ j, inS L a j = true) h h' := ⟨by rw [f.1]; exact Nat.le_refl _, by rw [f.1]; exact Nat.le_refl _, by rw [f.1]; exact Nat.le_refl _, by rw [f.1], fun a _ => by rw [f.1], fun a j _ q => f.2 a j (by cases e : inS L a j with | false => rfl | true => exact absurd ⟨j, e⟩ q)⟩
theorem fx.y {L : List (Nat × Option Nat)} (f : fx k L h h') : fy k (fun a => ∃ j, inS L a j = true) h h' := ⟨f.1, f.2.1, f.2.2.1, f.2.2.2.1, f.2.2.2.2.1, fun a j ha q => f.2.2.2.2.2 a j ha (by cases e : inS L a j with | false => rfl | true => exact absurd ⟨j, e⟩ q)⟩
theorem inS_lt {b : Nat} : ∀ {L : List (Nat × Option Nat)}, (L.all fun p => decide (p.1 < b)) = true → ∀ {a j}, inS L a j = true → a < b
  | [], _, a, j, h => by cases h
  | (x, o) :: L, q, a, j, h => by
    simp only [List.all_cons, Bool.and_eq_true, decide_eq_true_eq] at q
    unfold inS at h
    simp only [Bool.or_eq_true, Bool.and_eq_true, beq_iff_eq] at h
    rcases h with h | h
    · omega
    · exact inS_lt q.2 h
/-- the class changes its own cells alone -/
abbrev Xc (a : Nat) : Prop := a < 153
theorem fr.c {L : List (Nat × Option Nat)} (f : fr L h h') (q : (L.all fun p => decide (p.1 < 153)) = true) : fy 0 Xc h h' := f.y.mono (fun _ z => by obtain ⟨j, e⟩ := z; exact inS_lt q e) (Nat.le_refl _)
theorem fx.c {L : List (Nat × Option Nat)} (f : fx k L h h') (q : (L.all fun p => decide (p.1 < 153)) = true) : fy k Xc h h' := f.y.mono (fun _ z => by obtain ⟨j, e⟩ := z; exact inS_lt q e) (Nat.le_refl _)
end FY
/-- an int[] of n that was made later; an int[][] -/
def yA (h : AH) (a n : Nat) : Prop := 168 ≤ a ∧ a < h.2.2.1 ∧ h.2.1 a = 100 + 2 * n
def yM (h : AH) (a n : Nat) : Prop := 168 ≤ a ∧ a < h.2.2.1 ∧ h.2.1 a = 101 + 2 * n
section YA
variable {k : Nat} {X : Nat → Prop} {h h' : AH} {a n : Nat}
theorem ok_d (h1 : a < h.2.2.1) : ax_ok true h a = true := by unfold ax_ok; simp [h1]
theorem yA.ty (s : yA h a n) : ax_ty h a = (20, n) := by
  rw [ty_dyn h s.1, s.2.2]
  unfold ax_dty
  rw [if_neg (by omega), if_pos (by omega), show (100 + 2 * n - 100) / 2 = n by omega]
theorem yM.ty (s : yM h a n) : ax_ty h a = (24, n) := by
  rw [ty_dyn h s.1, s.2.2]
  unfold ax_dty
  rw [if_neg (by omega), if_neg (by omega), show (101 + 2 * n - 101) / 2 = n by omega]
theorem yA.d (s : yA h a n) : dA h a n := ⟨by have := s.1; omega, s.ty, ok_d s.2.1⟩
theorem yA.c (s : yA h a n) : dC h a := ⟨by have := s.1; omega, by rw [s.ty], ok_d s.2.1⟩
theorem yM.d (s : yM h a n) : dM h a n := ⟨by have := s.1; omega, s.ty, ok_d s.2.1⟩
theorem yA.y (s : yA h a n) (f : fy k X h h') : yA h' a n := ⟨s.1, Nat.lt_of_lt_of_le s.2.1 f.1, (f.2.2.2.2.1 a s.2.1).trans s.2.2⟩
theorem yM.y (s : yM h a n) (f : fy k X h h') : yM h' a n := ⟨s.1, Nat.lt_of_lt_of_le s.2.1 f.1, (f.2.2.2.2.1 a s.2.1).trans s.2.2⟩
theorem yA.wr (s : yA h a n) (b j : Nat) (v : Value) : yA (ax_wr h b j v) a n := s
theorem yM.wr (s : yM h a n) (b j : Nat) (v : Value) : yM (ax_wr h b j v) a n := s
theorem yA.w (s : yA h a n) (j : Nat) : ax_wok true a j = true := wok_dyn s.1 j
theorem yM.w (s : yM h a n) (j : Nat) : ax_wok true a j = true := wok_dyn s.1 j
theorem yA.g (s : yA h a n) (j : Nat) : gI h a j = hI h a j := gI_dyn s.1 j
theorem yM.g (s : yM h a n) (j : Nat) : gR h a j = hR h a j := gR_dyn s.1 j
theorem yA.new (ha : 168 ≤ h.2.2.1) (g : Nat → Value) : yA (ax_mk h (ax_dcd 20 n) n g) h.2.2.1 n := ⟨ha, Nat.lt_succ_self _, if_pos rfl⟩
theorem yM.new (ha : 168 ≤ h.2.2.1) (g : Nat → Value) : yM (ax_mk h (ax_dcd 24 n) n g) h.2.2.1 n := ⟨ha, Nat.lt_succ_self _, if_pos rfl⟩
theorem mk_V (c len : Nat) (g : Nat → Value) (j : Nat) : (ax_mk h c len g).1 h.2.2.1 j = g j := if_pos rfl
end YA
/-- the law's own game holds the same stages -/
def oS (c n : Nat) (K P B : Nat → Nat) (h : AH) : Prop := okS c n K P B ∧ 168 ≤ h.2.2.1 ∧ hI h 153 0 = nI c ∧ hI h 153 1 = nI n ∧ ∀ i, i < n → hI h 155 i = nI (K i) ∧ hI h 156 i = nI (P i) ∧ hI h 157 i = nI (B i)
section S84
variable {c n : Nat} {K P B : Nat → Nat} {h h' : AH}
theorem oS.ok (s : oS c n K P B h) : okS c n K P B := s.1
theorem oS.al (s : oS c n K P B h) : 168 ≤ h.2.2.1 := s.2.1
theorem oS.mm (s : oS c n K P B h) : hI h 153 0 = nI c := s.2.2.1
theorem oS.nn (s : oS c n K P B h) : hI h 153 1 = nI n := s.2.2.2.1
theorem oS.KK (s : oS c n K P B h) {i : Nat} (hi : i < n) : hI h 155 i = nI (K i) := (s.2.2.2.2 i hi).1
theorem oS.PP (s : oS c n K P B h) {i : Nat} (hi : i < n) : hI h 156 i = nI (P i) := (s.2.2.2.2 i hi).2.1
theorem oS.BB (s : oS c n K P B h) {i : Nat} (hi : i < n) : hI h 157 i = nI (B i) := (s.2.2.2.2 i hi).2.2
theorem oS.n6 (s : oS c n K P B h) : n ≤ 6 := s.ok.2.2.1
theorem oS.y {k : Nat} {X : Nat → Prop} (s : oS c n K P B h) (f : fy k X h h') (q : ∀ a, X a → ¬ (153 ≤ a ∧ a < 158)) : oS c n K P B h' := by
  have al := s.al
  have N : ∀ a, 153 ≤ a → a < 158 → ¬ X a := fun a h1 h2 z => q a z ⟨h1, h2⟩
  exact ⟨s.ok, Nat.le_trans al f.1, (f.I (by omega) (N _ (by decide) (by decide))).trans s.mm, (f.I (by omega) (N _ (by decide) (by decide))).trans s.nn, fun i hi => ⟨(f.I (by omega) (N _ (by decide) (by decide))).trans (s.KK hi), (f.I (by omega) (N _ (by decide) (by decide))).trans (s.PP hi), (f.I (by omega) (N _ (by decide) (by decide))).trans (s.BB hi)⟩⟩
theorem so_has {g p : Nat} (hg : g < 8) (hp : p < 3) (h : AH) : XX true 1 80 0 [.int (nI g), .int (nI p)] [] (h) (some (.int (b2i (g.testBit p = true))), h) := by
  refine wb_L_has_0 ?_
  rw [v_vbit g hg p hp]
  by_cases q : g.testBit p = true
  · rw [if_pos q, if_pos rfl, b2i_t q]
  · rw [if_neg q, if_neg (by decide), b2i_f q]
theorem so_has5 {g p : Nat} (hg : g < 32) (hp : p < 10) (h : AH) : XX true 1 80 0 [.int (nI g), .int (nI p)] [] (h) (some (.int (b2i (g.testBit p = true))), h) := by
  refine wb_L_has_0 ?_
  rw [v_bit g hg p hp]
  by_cases q : g.testBit p = true
  · rw [if_pos q, if_pos rfl, b2i_t q]
  · rw [if_neg q, if_neg (by decide), b2i_f q]
theorem so_chooses (s : oS c n K P B h) {i p : Nat} (hi : i < n) (hp : p < 3) : XX true 1 108 0 [.ref 153, .int (nI i), .int (nI p)] [] (h) (some (.int (b2i (picks K P p i))), h) := by
  have h6 := s.n6
  have kk := s.ok.2.2.2 i hi
  have go : isChc (K i) → XX true 1 108 20 [.ref 153, .int (nI i), .int (nI p)] [] (h) ((some (.int (b2i (picks K P p i))), h)) := by
    intro z
    refine wb_X12_chooses_20 ?_
    rw [ix_nI (by omega), s.PP hi]
    refine ⟨in_nI (by omega) (by decide), ?_⟩
    by_cases q : P i = p
    · rw [if_pos (by rw [q]), b2i_t ⟨z, q⟩]
    · rw [if_neg (fun y => q ((nI_eq (by omega) (by omega)).mp y)), b2i_f (fun y => q y.2)]
  refine wb_X12_chooses_0 ?_
  rw [ix_nI (by omega), s.KK hi]
  refine ⟨in_nI (by omega) (by decide), ?_⟩
  by_cases q : K i = 2
  · rw [if_pos (by rw [q])]
    exact go (Or.inl q)
  · rw [if_neg (fun y => q ((nI_eq (by omega) (by omega)).mp y))]
    refine ⟨in_nI (by omega) (by decide), ?_⟩
    by_cases r : K i = 3
    · rw [if_pos (by rw [r])]
      exact go (Or.inr r)
    · rw [if_neg (fun y => r ((nI_eq (by omega) (by omega)).mp y)), b2i_f (fun z => z.1.elim q r)]
theorem so_left (s : oS c n K P B h) : XX true 1 90 0 [.ref 153, ax_junk, ax_junk] [] (h) (some (.int (nI (c - v_out K n))), h) := by
  have h6 := s.n6
  have h5 := s.ok.2.1
  have lp : ∀ k i, i + k = n → XX true 1 90 7 [.ref 153, .int (nI (c - v_out K i)), .int (nI i)] [] (h) ((some (.int (nI (c - v_out K n))), h)) := by
    intro k
    induction k with
    | zero =>
      intro i hi
      obtain rfl : i = n := hi
      refine wb_X12_left_7 ?_
      rw [s.nn, if_neg (nI_nlt (Nat.le_refl _) (by omega))]
    | succ k ih =>
      intro i hi
      have oc := v_out_c s.ok (i + 1) (by omega)
      have g := ih (i + 1) (by omega)
      have kk := s.ok.2.2.2 i (by omega)
      have e : v_out K (i + 1) = v_out K i + (if isCd (K i) then 1 else 0) := rfl
      refine wb_X12_left_7 ?_
      rw [s.nn, if_pos (nI_lt (by omega) (by omega)), ix_nI (by omega), s.KK (by omega)]
      refine ⟨in_nI (by omega) (by decide), ?_⟩
      by_cases q : isCd (K i)
      · rw [if_pos (nI_lt (by omega) (by decide))]
        rw [e, if_pos q] at g oc
        refine wb_X12_left_31 ?_
        rw [nI_s, show nI 1 = nI (0 + 1) by rfl, nI_subI (by omega), show c - v_out K i - (0 + 1) = c - (v_out K i + 1) by omega]
        exact g
      · rw [if_neg (nI_nlt (by omega) (by omega))]
        rw [e, if_neg q] at g
        refine wb_X12_left_31 ?_
        rw [nI_s, nI_subI (by omega)]
        exact g
  refine wb_X12_left_0 ?_
  rw [s.mm]
  exact lp n 0 (by omega)
theorem so_seen (s : oS c n K P B h) {j : Nat} (hj : j ≤ n) : ∃ h', XX true 2 82 0 [.ref 153, .int (nI j), ax_junk, ax_junk, ax_junk] [] (h) (some (rf (h.2.2.1)), h') ∧ fy 7 (fun _ => False) h h' ∧ yA h' h.2.2.1 6 ∧ ∀ i, i < j → hI h' h.2.2.1 i = nI (v_seen K P i j) := by
  have h6 := s.n6
  have al := s.al
  have sl : ∀ i k, k ≤ n → v_seen K P i k < 8 := fun i k hk => v_seen_lt k (fun a ha => (s.ok.2.2.2 a (by omega)).2.1)
  -- the inner loop, and what follows it
  have inn : ∀ {i : Nat}, i < j → ∀ k e, e + k = i → ∀ h1, fy 7 (fun _ => False) h h1 → yA h1 h.2.2.1 6 → (∀ a, a < e → hI h1 h.2.2.1 a = nI (v_seen K P a (i + 1))) → (∀ a, e ≤ a → a < i → hI h1 h.2.2.1 a = nI (v_seen K P a i)) → ∃ h2, fy 7 (fun _ => False) h h2 ∧ yA h2 h.2.2.1 6 ∧ (∀ a, a < i + 1 → hI h2 h.2.2.1 a = nI (v_seen K P a (i + 1))) ∧ ∀ R, XX true 2 82 7 [.ref 153, .int (nI j), rf (h.2.2.1), .int (nI (i + 1)), ax_junk] [] (h2) (R) → XX true 2 82 15 [.ref 153, .int (nI j), rf (h.2.2.1), .int (nI i), .int (nI e)] [] (h1) (R) := by
    intro i hi k
    have kk := s.ok.2.2.2 i (by omega)
    induction k with
    | zero =>
      intro e he h1 f y o1 o2
      obtain rfl : e = i := he
      have s1 : oS c n K P B h1 := s.y f (fun _ z => z.elim)
      have st : v_seen K P e (e + 1) = if isSec (K e) then 1 <<< P e else 7 := if_pos rfl
      have fin : ∀ v, nI v = nI (v_seen K P e (e + 1)) → (fy 7 (fun _ => False) h (ax_wr h1 h.2.2.1 e (.int (nI v))) ∧ yA (ax_wr h1 h.2.2.1 e (.int (nI v))) h.2.2.1 6 ∧ (∀ a, a < e + 1 → hI (ax_wr h1 h.2.2.1 e (.int (nI v))) h.2.2.1 a = nI (v_seen K P a (e + 1)))) ∧ ∀ R, XX true 2 82 7 [.ref 153, .int (nI j), rf (h.2.2.1), .int (nI (e + 1)), ax_junk] [] (ax_wr h1 h.2.2.1 e (.int (nI v))) (R) → XX true 2 82 131 [.ref 153, .int (nI j), rf (h.2.2.1), .int (nI e), ax_junk] [.int (nI v), .int (nI e), rf (h.2.2.1)] (h1) (R) := by
        intro v hv
        refine ⟨⟨f.wr (Or.inr (Nat.le_refl _)), y.wr _ _ _, fun a ha => ?_⟩, fun R x => ?_⟩
        · by_cases z : a = e
          · rw [z, wr_I, hv]
          · rw [wr_Ij z]
            exact o1 a (by omega)
        · refine wb_X12_seen_131 ?_
          rw [nI_s]
          rw [ix_nI (by omega)]
          exact ⟨6, y.d, in_nI (by omega) (by decide), y.w _, x⟩
      have own : isSec (K e) → ∃ h2, fy 7 (fun _ => False) h h2 ∧ yA h2 h.2.2.1 6 ∧ (∀ a, a < e + 1 → hI h2 h.2.2.1 a = nI (v_seen K P a (e + 1))) ∧ ∀ R, XX true 2 82 7 [.ref 153, .int (nI j), rf (h.2.2.1), .int (nI (e + 1)), ax_junk] [] (h2) (R) → XX true 2 82 118 [.ref 153, .int (nI j), rf (h.2.2.1), .int (nI e), ax_junk] [.int (nI e), rf (h.2.2.1)] (h1) (R) := by
        intro q
        obtain ⟨⟨a1, a2, a3⟩, a4⟩ := fin (1 <<< P e) (by rw [st, if_pos q])
        refine ⟨_, a1, a2, a3, fun R x => ?_⟩
        refine wb_X12_seen_118 ?_
        rw [ix_nI (by omega), s1.PP (by omega), v_see1 _ kk.2.1]
        exact ⟨in_nI (by omega) (by decide), a4 R x⟩
      have h15 : ∀ {h2 : AH} (R : Option Value × AH), (XX true 2 82 7 [.ref 153, .int (nI j), rf (h.2.2.1), .int (nI (e + 1)), ax_junk] [] (h2) (R) → ax_in (nI e) 6 = true ∧ (if nI (K e) = nI 0 then XX true 2 82 118 [.ref 153, .int (nI j), rf (h.2.2.1), .int (nI e), ax_junk] [.int (nI e), rf (h.2.2.1)] (h1) (R) else ax_in (nI e) 6 = true ∧ (if nI (K e) = nI 3 then XX true 2 82 118 [.ref 153, .int (nI j), rf (h.2.2.1), .int (nI e), ax_junk] [.int (nI e), rf (h.2.2.1)] (h1) (R) else ax_in (nI e) 6 = true ∧ (if nI (K e) = nI 7 then XX true 2 82 118 [.ref 153, .int (nI j), rf (h.2.2.1), .int (nI e), ax_junk] [.int (nI e), rf (h.2.2.1)] (h1) (R) else XX true 2 82 131 [.ref 153, .int (nI j), rf (h.2.2.1), .int (nI e), ax_junk] [.int (nI 7), .int (nI e), rf (h.2.2.1)] (h1) (R))))) → XX true 2 82 7 [.ref 153, .int (nI j), rf (h.2.2.1), .int (nI (e + 1)), ax_junk] [] (h2) (R) → XX true 2 82 15 [.ref 153, .int (nI j), rf (h.2.2.1), .int (nI e), .int (nI e)] [] (h1) (R) := by
        intro h2 R g x
        refine wb_X12_seen_15 ?_
        rw [if_neg (nI_nlt (Nat.le_refl _) (by omega)), ix_nI (by omega), s1.KK (by omega)]
        exact g x
      have ii : ax_in (nI e) 6 = true := in_nI (by omega) (by decide)
      by_cases q : isSec (K e)
      · obtain ⟨h2, a1, a2, a3, a4⟩ := own q
        refine ⟨h2, a1, a2, a3, fun R x => h15 R (fun x => ⟨ii, ?_⟩) x⟩
        by_cases q0 : K e = 0
        · rw [if_pos (by rw [q0])]; exact a4 R x
        · rw [if_neg (fun y => q0 ((nI_eq (by omega) (by omega)).mp y))]
          refine ⟨ii, ?_⟩
          by_cases q3 : K e = 3
          · rw [if_pos (by rw [q3])]; exact a4 R x
          · rw [if_neg (fun y => q3 ((nI_eq (by omega) (by omega)).mp y))]
            refine ⟨ii, ?_⟩
            have q7 : K e = 7 := by rcases q with z | z | z; exact absurd z q0; exact absurd z q3; exact z
            rw [if_pos (by rw [q7])]; exact a4 R x
      · obtain ⟨⟨a1, a2, a3⟩, a4⟩ := fin 7 (by rw [st, if_neg q])
        refine ⟨_, a1, a2, a3, fun R x => h15 R (fun x => ⟨ii, ?_⟩) x⟩
        rw [if_neg (fun y => q (Or.inl ((nI_eq (by omega) (by omega)).mp y)))]
        refine ⟨ii, ?_⟩
        rw [if_neg (fun y => q (Or.inr (Or.inl ((nI_eq (by omega) (by omega)).mp y))))]
        refine ⟨ii, ?_⟩
        rw [if_neg (fun y => q (Or.inr (Or.inr ((nI_eq (by omega) (by omega)).mp y))))]
        exact a4 R x
    | succ k ih =>
      intro e he h1 f y o1 o2
      have s1 : oS c n K P B h1 := s.y f (fun _ z => z.elim)
      have sv := sl e i (by omega)
      have st := v_seen_step (K := K) (P := P) (i := e) (j := i) (by omega)
      have ii : ax_in (nI i) 6 = true := in_nI (by omega) (by decide)
      have ie : ax_in (nI e) 6 = true := in_nI (by omega) (by decide)
      have ev : hI h1 h.2.2.1 e = nI (v_seen K P e i) := o2 e (Nat.le_refl _) (by omega)
      -- one more
      have nxt : ∀ (h3 : AH), fy 7 (fun _ => False) h h3 → yA h3 h.2.2.1 6 → (∀ a, a ≠ e → hI h3 h.2.2.1 a = hI h1 h.2.2.1 a) → hI h3 h.2.2.1 e = nI (v_seen K P e (i + 1)) → ∃ h2, fy 7 (fun _ => False) h h2 ∧ yA h2 h.2.2.1 6 ∧ (∀ a, a < i + 1 → hI h2 h.2.2.1 a = nI (v_seen K P a (i + 1))) ∧ ∀ R, XX true 2 82 7 [.ref 153, .int (nI j), rf (h.2.2.1), .int (nI (i + 1)), ax_junk] [] (h2) (R) → XX true 2 82 80 [.ref 153, .int (nI j), rf (h.2.2.1), .int (nI i), .int (nI e)] [] (h3) (R) := by
        intro h3 f3 y3 ot eq
        obtain ⟨h2, a1, a2, a3, a4⟩ := ih (e + 1) (by omega) h3 f3 y3 (fun a ha => by
          by_cases z : a = e
          · rw [z, eq]
          · rw [ot a z]; exact o1 a (by omega)) (fun a h1 h2 => by rw [ot a (by omega)]; exact o2 a (by omega) h2)
        refine ⟨h2, a1, a2, a3, fun R x => ?_⟩
        refine wb_X12_seen_80 ?_
        rw [nI_s]
        exact a4 R x
      -- the fifth kind
      have five : ∀ (v : Nat) (h3 : AH), v < 8 → fy 7 (fun _ => False) h h3 → yA h3 h.2.2.1 6 → (∀ a, a ≠ e → hI h3 h.2.2.1 a = hI h1 h.2.2.1 a) → hI h3 h.2.2.1 e = nI v → v_seen K P e (i + 1) = (if K i = 5 then (if v.testBit (P i) = true then v - 1 <<< P i else v) else v) → ∃ h2, fy 7 (fun _ => False) h h2 ∧ yA h2 h.2.2.1 6 ∧ (∀ a, a < i + 1 → hI h2 h.2.2.1 a = nI (v_seen K P a (i + 1))) ∧ ∀ R, XX true 2 82 7 [.ref 153, .int (nI j), rf (h.2.2.1), .int (nI (i + 1)), ax_junk] [] (h2) (R) → XX true 2 82 53 [.ref 153, .int (nI j), rf (h.2.2.1), .int (nI i), .int (nI e)] [] (h3) (R) := by
        intro v h3 hv f3 y3 ot eq es
        have s3 : oS c n K P B h3 := s.y f3 (fun _ z => z.elim)
        by_cases q : K i = 5
        · rw [if_pos q] at es
          obtain ⟨h2, a1, a2, a3, a4⟩ := nxt (ax_wr h3 h.2.2.1 e (.int (nI (if v.testBit (P i) = true then v - 1 <<< P i else v)))) (f3.wr (Or.inr (Nat.le_refl _))) (y3.wr _ _ _) (fun a ha => by rw [wr_Ij ha]; exact ot a ha) (by rw [wr_I, es])
          refine ⟨h2, a1, a2, a3, fun R x => ?_⟩
          refine wb_X12_seen_53 ?_
          rw [ix_nI (by omega), ix_nI (by omega), s3.KK (by omega), s3.PP (by omega), y3.g, eq, v_see1 _ kk.2.1, v_see3 v hv _ kk.2.1, if_pos (by rw [q])]
          exact ⟨ii, 6, y3.d, ie, ii, 6, y3.d, ie, y3.w _, a4 R x⟩
        · rw [if_neg q] at es
          obtain ⟨h2, a1, a2, a3, a4⟩ := nxt h3 f3 y3 ot (by rw [eq, es])
          refine ⟨h2, a1, a2, a3, fun R x => ?_⟩
          refine wb_X12_seen_53 ?_
          rw [ix_nI (by omega), s3.KK (by omega), if_neg (fun y => q ((nI_eq (by omega) (by omega)).mp y))]
          exact ⟨ii, a4 R x⟩
      by_cases q : K i = 4
      · by_cases r : (v_seen K P e i).testBit (P i) = true
        · obtain ⟨h2, a1, a2, a3, a4⟩ := five 7 (ax_wr h1 h.2.2.1 e (.int (nI 7))) (by decide) (f.wr (Or.inr (Nat.le_refl _))) (y.wr _ _ _) (fun a ha => wr_Ij ha) (wr_I _ _ _ _) (by rw [st, if_pos ⟨q, r⟩, if_neg (by omega)])
          refine ⟨h2, a1, a2, a3, fun R x => ?_⟩
          refine wb_X12_seen_15 ?_
          rw [if_pos (nI_lt (by omega) (by omega)), ix_nI (by omega), ix_nI (by omega), s1.KK (by omega), s1.PP (by omega), if_pos (by rw [q]), y.g, ev]
          refine ⟨ii, 6, y.d, ie, ii, ?_⟩
          refine cl_X12_seen_41 rfl (by decide) (so_has sv kk.2.1 h1) ?_
          refine wb_X12_seen_44 ?_
          rw [b2i_t r, if_neg (by decide), ix_nI (by omega)]
          exact ⟨6, y.d, ie, y.w _, a4 R x⟩
        · obtain ⟨h2, a1, a2, a3, a4⟩ := five (v_seen K P e i) h1 sv f y (fun _ _ => rfl) ev (by rw [st, if_neg (fun z => r z.2)])
          refine ⟨h2, a1, a2, a3, fun R x => ?_⟩
          refine wb_X12_seen_15 ?_
          rw [if_pos (nI_lt (by omega) (by omega)), ix_nI (by omega), ix_nI (by omega), s1.KK (by omega), s1.PP (by omega), if_pos (by rw [q]), y.g, ev]
          refine ⟨ii, 6, y.d, ie, ii, ?_⟩
          refine cl_X12_seen_41 rfl (by decide) (so_has sv kk.2.1 h1) ?_
          refine wb_X12_seen_44 ?_
          rw [b2i_f r, if_pos rfl]
          exact a4 R x
      · obtain ⟨h2, a1, a2, a3, a4⟩ := five (v_seen K P e i) h1 sv f y (fun _ _ => rfl) ev (by rw [st, if_neg (fun z => q z.1)])
        refine ⟨h2, a1, a2, a3, fun R x => ?_⟩
        refine wb_X12_seen_15 ?_
        rw [if_pos (nI_lt (by omega) (by omega)), ix_nI (by omega), s1.KK (by omega), if_neg (fun y => q ((nI_eq (by omega) (by omega)).mp y))]
        exact ⟨ii, a4 R x⟩
  have out : ∀ k i, i + k = j → ∀ h1, fy 7 (fun _ => False) h h1 → yA h1 h.2.2.1 6 → (∀ a, a < i → hI h1 h.2.2.1 a = nI (v_seen K P a i)) → ∃ h', XX true 2 82 7 [.ref 153, .int (nI j), rf (h.2.2.1), .int (nI i), ax_junk] [] (h1) ((some (rf h.2.2.1), h')) ∧ fy 7 (fun _ => False) h h' ∧ yA h' h.2.2.1 6 ∧ ∀ a, a < j → hI h' h.2.2.1 a = nI (v_seen K P a j) := by
    intro k
    induction k with
    | zero =>
      intro i hi h1 f y o
      obtain rfl : i = j := hi
      refine ⟨h1, ?_, f, y, o⟩
      refine wb_X12_seen_7 ?_
      rw [if_neg (nI_nlt (Nat.le_refl _) (by omega))]
    | succ k ih =>
      intro i hi h1 f y o
      obtain ⟨h2, a1, a2, a3, a4⟩ := inn (i := i) (by omega) i 0 (by omega) h1 f y (fun a ha => absurd ha (Nat.not_lt_zero _)) (fun a _ ha => o a ha)
      obtain ⟨h', b1, b2⟩ := ih (i + 1) (by omega) h2 a1 a2 a3
      refine ⟨h', ?_, b2⟩
      refine wb_X12_seen_7 ?_
      rw [if_pos (nI_lt (by omega) (by omega))]
      exact a4 _ b1
  obtain ⟨h', x, y⟩ := out j 0 (by omega) (mkI h 6) ((fy.rf _ h).mk.mono (fun _ z => z) (by decide)) (yA.new al _) (fun a ha => absurd ha (Nat.not_lt_zero _))
  refine ⟨h', ?_, y⟩
  refine wb_X12_seen_0 ?_
  exact ⟨⟨al, by decide, by decide⟩, x⟩
theorem so_view (s : oS c n K P B h) {p j a m : Nat} (hp : p < 3) (hj : j ≤ n) (ya : yA h a m) (hm : j ≤ m) (hm2 : m < 2 ^ 31) {e : Nat → Nat} (he : ∀ i, i < j → hI h a i = nI (e i)) : ∃ h', XX true 3 81 0 [.ref 153, .int (nI p), rf (a), .int (nI j), ax_junk, ax_junk, ax_junk] [] (h) (some (.int (nI (v_view K P p j e j))), h') ∧ fy 7 (fun _ => False) h h' := by
  have h6 := s.n6
  obtain ⟨h1, x1, f1, y1, o1⟩ := so_seen s hj
  have sl : ∀ i, v_seen K P i j < 8 := fun i => v_seen_lt j (fun a ha => (s.ok.2.2.2 a (by omega)).2.1)
  have ya1 := ya.y f1
  have lp : ∀ k i, i + k = j → XX true 3 81 13 [ax_junk, .int (nI p), rf (a), .int (nI j), rf (h.2.2.1), .int (nI (v_view K P p j e i)), .int (nI i)] [] (h1) ((some (.int (nI (v_view K P p j e j))), h1)) := by
    intro k
    induction k with
    | zero =>
      intro i hi
      obtain rfl : i = j := hi
      refine wb_X12_view_13 ?_
      rw [if_neg (nI_nlt (Nat.le_refl _) (by omega))]
    | succ k ih =>
      intro i hi
      have g := ih (i + 1) (by omega)
      have ev : hI h1 a i = nI (e i) := (f1.I ya.2.1 (fun z => z)).trans (he i (by omega))
      have st : v_view K P p j e (i + 1) = 8 * v_view K P p j e i + (if (v_seen K P i j).testBit p = true then e i + 1 else 0) := rfl
      refine wb_X12_view_13 ?_
      rw [if_pos (nI_lt (by omega) (by omega)), ix_nI (by omega), y1.g, o1 i (by omega)]
      refine ⟨6, y1.d, in_nI (by omega) (by decide), ?_⟩
      refine cl_X12_view_30 rfl (by decide) (so_has (sl i) hp h1) ?_
      refine wb_X12_view_33 ?_
      by_cases q : (v_seen K P i j).testBit p = true
      · rw [b2i_t q, if_neg (by decide), ix_nI (by omega), ya1.g, ev]
        refine ⟨m, ya1.d, in_nI (by omega) (by omega), ?_⟩
        refine wb_X12_view_46 ?_
        rw [st, if_pos q] at g
        rw [nI_s, nI_s, nI_mulI, nI_add, Nat.mul_comm]
        exact g
      · rw [b2i_f q, if_pos rfl]
        refine wb_X12_view_46 ?_
        rw [st, if_neg q] at g
        rw [nI_s, nI_mulI, nI_add, Nat.mul_comm]
        exact g
  refine ⟨h1, ?_, f1⟩
  refine wb_X12_view_0 ?_
  refine cl_X12_view_2 rfl (by decide) (x1) ?_
  refine wb_X12_view_5 ?_
  exact lp j 0 (by omega)
theorem so_same {a b m m' j : Nat} (ya : yA h a m) (yb : yA h b m') (h1 : j ≤ m) (h2 : j ≤ m') (hm : m < 2 ^ 31) (hm' : m' < 2 ^ 31) : XX true 1 111 0 [rf (a), rf (b), .int (nI j), ax_junk] [] (h) (some (.int (b2i (∀ i, i < j → hI h a i = hI h b i))), h) := by
  have lp : ∀ k i, i + k = j → (∀ x, x < i → hI h a x = hI h b x) → XX true 1 111 2 [rf (a), rf (b), .int (nI j), .int (nI i)] [] (h) ((some (.int (b2i (∀ i, i < j → hI h a i = hI h b i))), h)) := by
    intro k
    induction k with
    | zero =>
      intro i hi q
      obtain rfl : i = j := hi
      refine wb_L_same_2 ?_
      rw [if_neg (nI_nlt (Nat.le_refl _) (by omega)), b2i_t q]
    | succ k ih =>
      intro i hi q
      refine wb_L_same_2 ?_
      rw [if_pos (nI_lt (by omega) (by omega)), ix_nI (by omega), ya.g, yb.g]
      refine ⟨m, ya.d, in_nI (by omega) hm, m', yb.d, in_nI (by omega) hm', ?_⟩
      by_cases e : hI h a i = hI h b i
      · rw [if_pos e, nI_s]
        exact ih (i + 1) (by omega) (fun x hx => by
          by_cases z : x = i
          · rw [z]; exact e
          · exact q x (by omega))
      · rw [if_neg e, b2i_f (fun z => e (z i (by omega)))]
  refine wb_L_same_0 ?_
  exact lp j 0 (by omega) (fun x hx => absurd hx (Nat.not_lt_zero _))
end S84
