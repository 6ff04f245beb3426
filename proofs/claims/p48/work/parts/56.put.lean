/-! THE CLASS: a stage is put -/
theorem v_opt_congr {c : Nat} {K K' B B' : Nat → Nat} {i : Nat} (h : ∀ a, a ≤ i → K a = K' a ∧ B a = B' a) : v_opt c K B i = v_opt c K' B' i := by
  unfold v_opt
  rw [(h i (Nat.le_refl _)).1, (h i (Nat.le_refl _)).2, v_out_congr i (fun a ha => (h a (by omega)).1)]
theorem v_ways_congr {c : Nat} {K K' B B' : Nat → Nat} : ∀ j, (∀ a, a < j → K a = K' a ∧ B a = B' a) → v_ways c K B j = v_ways c K' B' j
  | 0, _ => rfl
  | j + 1, h => by
    show v_ways c K B j * v_opt c K B j = v_ways c K' B' j * v_opt c K' B' j
    rw [v_ways_congr j (fun a ha => h a (by omega)), v_opt_congr (fun a ha => h a (by omega))]
theorem v_gone_congr {c : Nat} {K K' B B' : Nat → Nat} : ∀ j w, (∀ a, a < j → K a = K' a ∧ B a = B' a) → v_gone c K B j w = v_gone c K' B' j w
  | 0, _, _ => rfl
  | j + 1, w, h => by
    show (if isCd (K j) then _ else _) = if isCd (K' j) then _ else _
    rw [(h j (by omega)).1, v_opt_congr (c := c) (K := K) (K' := K') (B := B) (B' := B') (i := j) (fun a ha => h a (by omega)), v_gone_congr j _ (fun a ha => h a (by omega))]
theorem v_evt_congr {c : Nat} {K K' B B' : Nat → Nat} {i w : Nat} (h : ∀ a, a ≤ i → K a = K' a ∧ B a = B' a) : v_evt c K B i w = v_evt c K' B' i w := by
  unfold v_evt
  rw [(h i (Nat.le_refl _)).1, v_opt_congr h, v_gone_congr i _ (fun a ha => h a (by omega))]
theorem v_seen_congr {K K' P P' : Nat → Nat} {i : Nat} : ∀ j, (∀ a, a < j → K a = K' a ∧ P a = P' a) → v_seen K P i j = v_seen K' P' i j
  | 0, _ => rfl
  | j + 1, h => by
    have ih := v_seen_congr (i := i) j (fun a ha => h a (by omega))
    have hj := h j (by omega)
    show (if i = j then _ else _) = (if i = j then _ else _)
    rw [ih, hj.1, hj.2]
    by_cases q : i = j
    · rw [if_pos q, if_pos q, q, hj.1, hj.2]
    · rw [if_neg q, if_neg q]
theorem okS.congr {c n : Nat} {K K' P P' B B' : Nat → Nat} (s : okS c n K P B) (h : ∀ a, a < n → K a = K' a ∧ P a = P' a ∧ B a = B' a) : okS c n K' P' B' := by
  refine ⟨s.1, s.2.1, s.2.2.1, fun i hi => ?_⟩
  have g := s.2.2.2 i hi
  rw [(h i hi).1, (h i hi).2.1, (h i hi).2.2, v_out_congr i (fun a ha => (h a (by omega)).1)] at g
  exact g
theorem tS.congr {o c n : Nat} {K K' P P' B B' S S' : Nat → Nat} {h : AH} (s : tS o c n K P B S h) (q : ∀ a, a < n → K a = K' a ∧ P a = P' a ∧ B a = B' a ∧ S a = S' a) : tS o c n K' P' B' S' h := by
  refine ⟨s.ok.congr (fun a ha => ⟨(q a ha).1, (q a ha).2.1, (q a ha).2.2.1⟩), s.al, s.cc, s.nn, fun i hi => ?_, fun i hi => ?_, fun i hi => ?_, fun i hi w hw => ?_, fun j hj i hi => ?_⟩
  · have g := s.st i hi
    rw [(q i hi).1, (q i hi).2.1, (q i hi).2.2.1, (q i hi).2.2.2] at g
    exact g
  · rw [s.fan i hi, v_opt_congr (fun a ha => ⟨(q a (by omega)).1, (q a (by omega)).2.2.1⟩)]
  · rw [s.beh i hi, v_ways_congr i (fun a ha => ⟨(q a (by omega)).1, (q a (by omega)).2.2.1⟩)]
  · rw [s.bef i hi w (by rw [v_ways_congr (c := c) (K := K) (K' := K') (B := B) (B' := B') (i + 1) (fun a ha => ⟨(q a (by omega)).1, (q a (by omega)).2.2.1⟩)]; exact hw), v_evt_congr (fun a ha => ⟨(q a (by omega)).1, (q a (by omega)).2.2.1⟩)]
  · rw [s.see j hj i hi, v_seen_congr j (fun a ha => ⟨(q a (by omega)).1, (q a (by omega)).2.1⟩)]
/-- the cells that a stage put behind n others gets -/
abbrev cfP (o n : Nat) : List (Nat × Option Nat) := [(68 + o, some n), (69 + o, some n), (70 + o, some (n + 1)), (80 + o + n, none), (72 + o + (n + 1), none), (86 + o, none)]
theorem cfP_in {o n a j : Nat} : inS (cfP o n) a j = true ↔ (a = 68 + o ∧ j = n) ∨ (a = 69 + o ∧ j = n) ∨ (a = 70 + o ∧ j = n + 1) ∨ a = 80 + o + n ∨ a = 72 + o + (n + 1) ∨ a = 86 + o := by
  simp [cfP, inS]
theorem cfP_no {o n a j : Nat} (h : ¬ ((a = 68 + o ∧ j = n) ∨ (a = 69 + o ∧ j = n) ∨ (a = 70 + o ∧ j = n + 1) ∨ a = 80 + o + n ∨ a = 72 + o + (n + 1) ∨ a = 86 + o)) : inS (cfP o n) a j = false := by
  rw [← cfP_in] at h
  exact Bool.eq_false_iff.mpr h
theorem tS_keep {o c n : Nat} {K P B S : Nat → Nat} {h h' : AH} (s : tS o c n K P B S h) (hn : n < 6) (ho : o < 30) (f : fr (cfP o n) h h') : tS o c n K P B S h' := by
  have no : ∀ {a j : Nat}, ¬ ((a = 68 + o ∧ j = n) ∨ (a = 69 + o ∧ j = n) ∨ (a = 70 + o ∧ j = n + 1) ∨ a = 80 + o + n ∨ a = 72 + o + (n + 1) ∨ a = 86 + o) → inS (cfP o n) a j = false := fun z => cfP_no z
  have sk : ∀ {a k p b : Nat}, sO h a k p b → sO h' a k p b := fun z => ⟨z.1, by rw [f.1]; exact z.2.1, by rw [f.1]; exact z.2.2.1, (f.R (no (by have := z.1; omega))).trans z.2.2.2.1, (f.I (no (by have := z.1; omega))).trans z.2.2.2.2.1, (f.I (no (by have := z.1; omega))).trans z.2.2.2.2.2⟩
  exact ⟨s.ok, by rw [f.1]; exact s.al, (f.I (no (by omega))).trans s.cc, (f.I (no (by omega))).trans s.nn, fun i hi => ⟨(f.R (no (by omega))).trans (s.st i hi).1, sk (s.st i hi).2⟩, fun i hi => (f.I (no (by omega))).trans (s.fan i hi), fun i hi => (f.I (no (by omega))).trans (s.beh i hi), fun i hi w hw => (f.I (no (by omega))).trans (s.bef i hi w hw), fun j hj i hi => (f.I (no (by omega))).trans (s.see j hj i hi)⟩
/-- how many of the first e cards are not gone -/
def v_rank (g : Nat) : Nat → Nat
  | 0 => 0
  | e + 1 => v_rank g e + (if g.testBit e = true then 0 else 1)
theorem v_rank_sel : ∀ g, g < 32 → ∀ e, e < 5 → ¬ g.testBit e = true → v_sel g 10 0 (v_rank g e) = e := by decide +kernel
theorem v_rank_c : ∀ c, c < 6 → ∀ g, g < 2 ^ c → v_rank g c = c - v_pc g := by decide +kernel
theorem v_rank_0 : ∀ e, v_rank 0 e = e
  | 0 => rfl
  | e + 1 => by
    show v_rank 0 e + (if (0 : Nat).testBit e = true then 0 else 1) = _
    rw [v_rank_0 e, Nat.zero_testBit, if_neg (by decide)]
theorem v_rank_mono (g : Nat) : ∀ k e, v_rank g e ≤ v_rank g (e + k)
  | 0, _ => Nat.le_refl _
  | k + 1, e => Nat.le_trans (v_rank_mono g k e) (by show _ ≤ v_rank g (e + k) + _; exact Nat.le_add_right _ _)
/-- which cards are gone, how far the loop goes -/
def v_bg (c : Nat) (K B : Nat → Nat) (n w : Nat) : Nat := if isCd (K n) then v_gone c K B n w else 0
def v_br (c : Nat) (K B : Nat → Nat) (n : Nat) : Nat := if isCd (K n) then c else v_opt c K B n
theorem v_bg_ok {c n : Nat} {K P B : Nat → Nat} (ok : okS c (n + 1) K P B) (w : Nat) : v_bg c K B n w < 32 ∧ v_br c K B n ≤ 5 ∧ v_rank (v_bg c K B n w) (v_br c K B n) = v_opt c K B n ∧ ∀ e, e < v_br c K B n → ¬ (v_bg c K B n w).testBit e = true → v_evt c K B n (w * v_opt c K B n + v_rank (v_bg c K B n w) e) = e := by
  have op := v_opt_pos ok (i := n) (by omega)
  have h5 := ok.2.1
  have hp : 2 ^ c ≤ 32 := Nat.le_trans (Nat.pow_le_pow_right (by decide) h5) (by decide)
  have dv : ∀ r, r < v_opt c K B n → (w * v_opt c K B n + r) / v_opt c K B n = w ∧ (w * v_opt c K B n + r) % v_opt c K B n = r := by
    intro r hr
    rw [Nat.mul_comm]
    exact ⟨by rw [Nat.mul_add_div (by omega), Nat.div_eq_of_lt hr, Nat.add_zero], by rw [Nat.mul_add_mod, Nat.mod_eq_of_lt hr]⟩
  unfold v_bg v_br
  by_cases q : isCd (K n)
  · rw [if_pos q, if_pos q]
    have g := v_gone_ok ok n w (by omega)
    have e1 : v_rank (v_gone c K B n w) c = v_opt c K B n := by
      rw [v_rank_c c (by omega) _ g.1, g.2]
      unfold v_opt
      rw [if_pos q]
    refine ⟨by omega, h5, e1, fun e he hb => ?_⟩
    have lt : v_rank (v_gone c K B n w) e < v_opt c K B n := by
      have m := v_rank_mono (v_gone c K B n w) (c - (e + 1)) (e + 1)
      rw [show e + 1 + (c - (e + 1)) = c by omega, e1] at m
      have : v_rank (v_gone c K B n w) (e + 1) = v_rank (v_gone c K B n w) e + 1 := by
        show _ + (if _ then 0 else 1) = _
        rw [if_neg hb]
      omega
    unfold v_evt
    rw [if_pos q, (dv _ lt).1, (dv _ lt).2]
    exact v_rank_sel _ (by omega) e (by omega) hb
  · rw [if_neg q, if_neg q]
    refine ⟨by decide, op.2, v_rank_0 _, fun e he _ => ?_⟩
    rw [v_rank_0]
    unfold v_evt
    rw [if_neg q, (dv _ he).2]
section S56
variable {c n : Nat} {K P B S : Nat → Nat} {h h' : AH}
theorem sp_t_cardsGone (s : tS 0 c n K P B S h) {j : Nat} (hj : j ≤ n) {w : Nat} (hw : w < v_ways c K B j) : ∃ h', XX true 3 100 0 [.ref 66, .int (nI w), .int (nI j), ax_junk, ax_junk] [] (h) (some (.int (nI (v_gone c K B j w))), h') ∧ fr [(86, none)] h h' := by
  have h6 := s.n6
  have h5 := s.c5
  obtain ⟨h1, r1, f, x⟩ := sp_t_go s hj hw
  have s1 : tS 0 c n K P B S h1 := s.fr f rfl rfl
  have hp : 2 ^ c ≤ 32 := Nat.le_trans (Nat.pow_le_pow_right (by decide) h5.2) (by decide)
  have lp : ∀ k i, i + k = j → XX true 3 100 11 [.ref 66, ax_junk, .int (nI j), .int (nI (v_gone c K B i (v_pre c K B j w i))), .int (nI i)] [] (h1) ((some (.int (nI (v_gone c K B j w))), h1)) := by
    intro k
    induction k with
    | zero =>
      intro i hi
      obtain rfl : i = j := hi
      refine wb_X8_cardsGone_11 ?_
      rw [if_neg (nI_nlt (Nat.le_refl _) (by omega)), v_pre_self]
    | succ k ih =>
      intro i hi
      have g := ih (i + 1) (by omega)
      have e : v_gone c K B (i + 1) (v_pre c K B j w (i + 1)) = if isCd (K i) then v_gone c K B i (v_pre c K B j w i) ||| 1 <<< v_what c K B j w i else v_gone c K B i (v_pre c K B j w i) := by
        show (if isCd (K i) then _ else _) = _
        rw [v_pre_step c K B j w i (by omega), v_what_pre c K B j w i (by omega)]
        by_cases z : isCd (K i)
        · rw [if_pos z, if_pos z]
          unfold v_evt
          rw [if_pos z]
        · rw [if_neg z, if_neg z]
      rw [e] at g
      have lt := (v_gone_ok s.ok i (v_pre c K B j w i) (by omega)).1
      have wl := v_what_lt s.ok hj w (i := i) (by omega)
      refine wb_X8_cardsGone_11 ?_
      rw [if_pos (nI_lt (by omega) (by omega))]
      refine cl_X8_cardsGone_20 rfl (by decide) (sp_t_isCardAt s1 (by omega)) ?_
      refine wb_X8_cardsGone_23 ?_
      by_cases z : isCd (K i)
      · rw [b2i_t z, if_neg (by decide), ix_nI (by omega), x i (by omega), v_orb _ (by omega) _ wl]
        rw [if_pos z] at g
        refine ⟨in_nI (by omega) (by decide), ?_⟩
        refine wb_X8_cardsGone_38 ?_
        rw [nI_s]
        exact g
      · rw [b2i_f z, if_pos rfl]
        rw [if_neg z] at g
        refine wb_X8_cardsGone_38 ?_
        rw [nI_s]
        exact g
  refine ⟨h1, ?_, f⟩
  refine wb_X8_cardsGone_0 ?_
  refine cl_X8_cardsGone_3 rfl (by decide) (r1) ?_
  refine wb_X8_cardsGone_6 ?_
  exact lp j 0 (by omega)
/-- what happens in each way in the stage that is put -/
abbrev brIt (c n : Nat) (K B : Nat → Nat) (h h1 : AH) (w : Nat) : Prop := fr [(80 + n, none), (86, none)] h h1 ∧ hI h1 70 n = nI (v_ways c K B n) ∧ ∀ a, a < w → hI h1 (80 + n) a = nI (v_evt c K B n a)
theorem sp_t_branch_in (ok : okS c (n + 1) K P B) {k w : Nat} (hw : w < v_ways c K B n) : ∀ m e, e + m = v_br c K B n → ∀ h1, brIt c n K B h h1 (w * v_opt c K B n + v_rank (v_bg c K B n w) e) → ∃ h2, brIt c n K B h h2 ((w + 1) * v_opt c K B n) ∧ ∀ R, XX true 4 99 27 [.ref 66, rf (k), .int (nI n), .int (nI (v_br c K B n)), .int (nI ((w + 1) * v_opt c K B n)), .int (nI (w + 1)), ax_junk, ax_junk] [] (h2) (R) → XX true 4 99 61 [.ref 66, rf (k), .int (nI n), .int (nI (v_br c K B n)), .int (nI (w * v_opt c K B n + v_rank (v_bg c K B n w) e)), .int (nI w), .int (nI (v_bg c K B n w)), .int (nI e)] [] (h1) (R) := by
  have h6 : n < 6 := ok.2.2.1
  have wl := v_ways_le ok (j := n) (by omega)
  have wl2 := v_ways_le ok (j := n + 1) (Nat.le_refl _)
  obtain ⟨b1, b2, b3, b4⟩ := v_bg_ok ok w
  intro m
  induction m with
  | zero =>
    intro e he h1 i
    obtain rfl : e = v_br c K B n := he
    rw [b3] at i ⊢
    rw [Nat.succ_mul]
    refine ⟨h1, i, fun R z => ?_⟩
    refine wb_X8_branch_61 ?_
    rw [if_neg (nI_nlt (Nat.le_refl _) (by omega)), nI_s]
    exact z
  | succ m ih =>
    intro e he h1 i
    have rk : v_rank (v_bg c K B n w) (e + 1) = v_rank (v_bg c K B n w) e + (if (v_bg c K B n w).testBit e = true then 0 else 1) := rfl
    by_cases q : (v_bg c K B n w).testBit e = true
    · rw [if_pos q] at rk
      obtain ⟨h2, j, z⟩ := ih (e + 1) (by omega) h1 (by rw [rk]; exact i)
      refine ⟨h2, j, fun R y => ?_⟩
      refine wb_X8_branch_61 ?_
      rw [if_pos (nI_lt (by omega) (by omega)), v_bit _ b1 e (by omega), if_pos q, if_neg (by decide)]
      refine wb_X8_branch_99 ?_
      rw [nI_s]
      have := z R y
      rw [rk] at this
      exact this
    · rw [if_neg q] at rk
      have mo := v_rank_mono (v_bg c K B n w) (v_br c K B n - (e + 1)) (e + 1)
      rw [show e + 1 + (v_br c K B n - (e + 1)) = v_br c K B n by omega, b3, rk] at mo
      have lt : w * v_opt c K B n + v_rank (v_bg c K B n w) e < v_ways c K B (n + 1) := by
        show _ < v_ways c K B n * v_opt c K B n
        have : (w + 1) * v_opt c K B n ≤ v_ways c K B n * v_opt c K B n := Nat.mul_le_mul_right _ hw
        rw [Nat.succ_mul] at this
        omega
      have ro := row79 n h6 h1
      obtain ⟨h2, j, z⟩ := ih (e + 1) (by omega) (ax_wr h1 (80 + n) (w * v_opt c K B n + v_rank (v_bg c K B n w) e) (.int (nI e))) ⟨i.1.wr' (by simp [inS]), by rw [wr_Ia (by omega)]; exact i.2.1, fun a ha => by
        by_cases y : a = w * v_opt c K B n + v_rank (v_bg c K B n w) e
        · rw [y, wr_I, b4 e (by omega) q]
        · rw [wr_Ij y]
          exact i.2.2 a (by rw [rk] at ha; omega)⟩
      refine ⟨h2, j, fun R y => ?_⟩
      refine wb_X8_branch_61 ?_
      rw [if_pos (nI_lt (by omega) (by omega)), v_bit _ b1 e (by omega), if_neg q, if_pos rfl, if_pos (nI_lt (by omega) (by omega)), ix_nI (by omega), ix_nI (by omega)]
      refine ⟨in_nI (by omega) (by decide), 80 + n, ro.1, 1620, ro.2.1, in_nI (by omega) (by decide), ro.2.2.2 _, ?_⟩
      refine wb_X8_branch_99 ?_
      rw [nI_s, nI_s]
      have := z R y
      rw [rk] at this
      exact this
theorem sp_t_branch (s : tS 0 c n K P B S h) (ok : okS c (n + 1) K P B) (f : hI h 69 n = nI (v_opt c K B n)) {k : Nat} (hk : k = K n) : ∃ h', XX true 4 99 0 [.ref 66, rf (k), .int (nI n), ax_junk, ax_junk, ax_junk, ax_junk, ax_junk] [] (h) (none, h') ∧ brIt c n K B h h' (v_ways c K B (n + 1)) := by
  have h6 : n < 6 := ok.2.2.1
  have k8 : K n < 8 := (ok.2.2.2 n (by omega)).1
  have wl := v_ways_le ok (j := n) (by omega)
  subst hk
  have lp : ∀ m w, w + m = v_ways c K B n → ∀ h1, brIt c n K B h h1 (w * v_opt c K B n) → ∃ h', XX true 4 99 27 [.ref 66, rf (K n), .int (nI n), .int (nI (v_br c K B n)), .int (nI (w * v_opt c K B n)), .int (nI w), ax_junk, ax_junk] [] (h1) ((none, h')) ∧ brIt c n K B h h' (v_ways c K B (n + 1)) := by
    intro m
    induction m with
    | zero =>
      intro w hw h1 i
      obtain rfl : w = v_ways c K B n := hw
      refine ⟨h1, ?_, i⟩
      refine wb_X8_branch_27 ?_
      rw [ix_nI (by omega), i.2.1, if_neg (nI_nlt (Nat.le_refl _) (by omega))]
      exact ⟨in_nI (by omega) (by decide), rfl⟩
    | succ m ih =>
      intro w hw h1 i
      have s1 := tS_keep s h6 (by decide) (i.1.mono (by simp [subS, cfP]))
      -- the inner loop, from a heap that differs in what happened alone
      have inner : ∀ h2, fr [(86, none)] h1 h2 → ∃ h3, XX true 4 99 56 [.ref 66, rf (K n), .int (nI n), .int (nI (v_br c K B n)), .int (nI (w * v_opt c K B n)), .int (nI w), ax_junk, ax_junk] [.int (nI (v_bg c K B n w))] (h2) ((none, h3)) ∧ brIt c n K B h h3 (v_ways c K B (n + 1)) := by
        intro h2 f2
        have i2 : brIt c n K B h h2 (w * v_opt c K B n) := ⟨i.1.trans (f2.mono (by simp [subS])), (f2.I rfl).trans i.2.1, fun a ha => (f2.I (by simp [inS]; omega)).trans (i.2.2 a ha)⟩
        obtain ⟨h3, i3, g⟩ := sp_t_branch_in (h := h) ok (k := K n) (w := w) (by omega) (v_br c K B n) 0 (by omega) h2 i2
        obtain ⟨h4, r4, i4⟩ := ih (w + 1) (by omega) h3 i3
        refine ⟨h4, ?_, i4⟩
        refine wb_X8_branch_56 ?_
        exact g _ r4
      by_cases q : isCd (K n)
      · obtain ⟨h2, r2, f2⟩ := sp_t_cardsGone s1 (Nat.le_refl _) (w := w) (by omega)
        obtain ⟨h3, r3, i3⟩ := inner h2 f2
        refine ⟨h3, ?_, i3⟩
        refine wb_X8_branch_27 ?_
        rw [ix_nI (by omega), i.2.1, if_pos (nI_lt (by omega) (by omega))]
        refine ⟨in_nI (by omega) (by decide), ?_⟩
        refine cl_X8_branch_39 rfl (by decide) (sp_kCard k8 h1) ?_
        refine ⟨kO _ k8 h1, ?_⟩
        refine wb_X8_branch_42 ?_
        rw [b2i_t q, if_neg (by decide)]
        refine cl_X8_branch_49 rfl (by decide) (r2) ?_
        refine wb_X8_branch_52 ?_
        have e : v_bg c K B n w = v_gone c K B n w := if_pos q
        rw [e] at r3
        exact r3
      · obtain ⟨h3, r3, i3⟩ := inner h1 fr.rfl'
        refine ⟨h3, ?_, i3⟩
        refine wb_X8_branch_27 ?_
        rw [ix_nI (by omega), i.2.1, if_pos (nI_lt (by omega) (by omega))]
        refine ⟨in_nI (by omega) (by decide), ?_⟩
        refine cl_X8_branch_39 rfl (by decide) (sp_kCard k8 h1) ?_
        refine ⟨kO _ k8 h1, ?_⟩
        refine wb_X8_branch_42 ?_
        rw [b2i_f q, if_pos rfl]
        have e : v_bg c K B n w = 0 := if_neg q
        rw [e] at r3
        exact r3
  obtain ⟨h', r, i⟩ := lp (v_ways c K B n) 0 (by omega) h ⟨fr.rfl', s.beh n (Nat.le_refl _), fun a ha => by rw [Nat.zero_mul] at ha; exact absurd ha (Nat.not_lt_zero _)⟩
  rw [Nat.zero_mul] at r
  refine ⟨h', ?_, i⟩
  refine wb_X8_branch_0 ?_
  refine cl_X8_branch_1 rfl (by decide) (sp_kCard k8 h) ?_
  refine ⟨kO _ k8 h, ?_⟩
  refine wb_X8_branch_4 ?_
  by_cases q : isCd (K n)
  · have e : v_br c K B n = c := if_pos q
    rw [e] at r
    rw [b2i_t q, if_neg (by decide), s.cc]
    refine wb_X8_branch_20 ?_
    exact r
  · have e : v_br c K B n = v_opt c K B n := if_neg q
    rw [e] at r
    rw [b2i_f q, if_pos rfl, ix_nI (by omega), f]
    refine ⟨in_nI (by omega) (by decide), ?_⟩
    refine wb_X8_branch_20 ?_
    exact r
end S56
