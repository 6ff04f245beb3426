/-! THE CLASS: views, ways alike, chances -/
theorem t64_inj {x y : Int32} : x.toInt64 = y.toInt64 ↔ x = y := by
  constructor
  · intro h
    apply Int32.toInt.inj
    rw [← Int32.toInt_toInt64, ← Int32.toInt_toInt64 y, h]
  · rintro rfl
    rfl
theorem cntN_cong {q r : Nat → Bool} : ∀ m, (∀ w, w < m → q w = r w) → cntN q m = cntN r m
  | 0, _ => rfl
  | m + 1, h => by
    show cntN q m + _ = cntN r m + _
    rw [cntN_cong m (fun w hw => h w (by omega)), h m (by omega)]
theorem cntN_yes {q : Nat → Bool} {m : Nat} (h : q m = true) : cntN q (m + 1) = cntN q m + 1 := by
  show cntN q m + (if q m = true then 1 else 0) = _
  rw [if_pos h]
theorem cntN_not {q : Nat → Bool} {m : Nat} (h : ¬ q m = true) : cntN q (m + 1) = cntN q m := by
  show cntN q m + (if q m = true then 1 else 0) = _
  rw [if_neg h, Nat.add_zero]
section S58
variable {c n : Nat} {K P B S : Nat → Nat} {h h' : AH}
theorem sp_picks (s : tS 0 c n K P B S h) (p j : Int32) : XX true 2 41 0 [.ref 66, .int (p), .int (j), ax_junk] [] (h) (some (.int (b2i (isLt n j ∧ isChc (K (ix j)) ∧ p = nI (P (ix j))))), h) := by
  have h6 := s.n6
  refine wb_X8_picks_0 ?_
  refine cl_X8_picks_2 rfl (by decide) (sp_t_at s j) ?_
  refine wb_X8_picks_5 ?_
  by_cases q : isLt n j
  · obtain ⟨i, hi, rfl⟩ := q.ex (by omega)
    have ei : ix (nI i) = i := ix_nI (by omega)
    rw [if_pos q, ei]
    have g := (s.st i hi).2
    have kk := s.kk hi
    rw [if_neg g.n9]
    refine ⟨g.o, K i, g.k, ?_⟩
    refine cl_X8_picks_14 rfl (by decide) (sp_kChoice kk.1 h) ?_
    refine ⟨kO _ kk.1 h, ?_⟩
    refine wb_X8_picks_17 ?_
    by_cases r : isChc (K i)
    · rw [b2i_t r, if_neg (by decide)]
      refine ⟨g.o, ?_⟩
      rw [g.p]
      by_cases t : nI (P i) = p
      · rw [if_pos t, b2i_t ⟨q, r, t.symm⟩]
      · rw [if_neg t, b2i_f (fun z => t z.2.2.symm)]
    · rw [b2i_f r, if_pos rfl, b2i_f (fun z => r z.2.1)]
  · rw [if_neg q, if_pos rfl, b2i_f (fun z => q z.1)]
theorem sp_picksN (s : tS 0 c n K P B S h) {p j : Nat} (hp : p < 3) (hj : j < n) : XX true 2 41 0 [.ref 66, .int (nI p), .int (nI j), ax_junk] [] (h) (some (.int (b2i (isChc (K j) ∧ P j = p))), h) := by
  have h6 := s.n6
  have kk := s.kk hj
  have g := sp_picks s (nI p) (nI j)
  rw [ix_nI (by omega)] at g
  rw [b2i_cong (c' := isChc (K j) ∧ P j = p) ⟨fun z => ⟨z.2.1, ((nI_eq (by omega) (by omega)).mp z.2.2).symm⟩, fun z => ⟨(isLt_nI (by omega) (by omega)).mpr hj, z.1, congrArg nI z.2.symm⟩⟩] at g
  exact g
theorem sp_isChanceAt (s : tS 0 c n K P B S h) {i : Nat} (hi : i < n) : XX true 3 60 0 [.ref 66, .int (nI i), ax_junk] [] (h) (some (.int (b2i (isCha (K i)))), h) := by
  have g := (s.st i hi).2
  refine wb_X8_isChanceAt_0 ?_
  refine cl_X8_isChanceAt_2 rfl (by decide) (sp_t_atN s hi) ?_
  refine wb_X8_isChanceAt_5 ?_
  rw [if_neg g.n9]
  refine ⟨g.o, K i, g.k, ?_⟩
  refine cl_X8_isChanceAt_14 rfl (by decide) (sp_kChance (s.kk hi).1 h) ?_
  refine ⟨kO _ (s.kk hi).1 h, ?_⟩
  refine wb_X8_isChanceAt_17 ?_
  by_cases q : isCha (K i)
  · rw [b2i_t q, if_neg (by decide)]
  · rw [b2i_f q, if_pos rfl]
theorem sp_chances (s : tS 0 c n K P B S h) : XX true 4 59 0 [.ref 66, .int (nI n), ax_junk, ax_junk] [] (h) (some (.int (nI (v_chn c K B n))), h) := by
  have h6 := s.n6
  have lp : ∀ k i, i + k = n → XX true 4 59 4 [.ref 66, .int (nI n), .int (nI (v_chn c K B i)), .int (nI i)] [] (h) ((some (.int (nI (v_chn c K B n))), h)) := by
    intro k
    induction k with
    | zero =>
      intro i hi
      obtain rfl : i = n := hi
      refine wb_X8_chances_4 ?_
      rw [if_neg (nI_nlt (Nat.le_refl _) (by omega))]
    | succ k ih =>
      intro i hi
      have g := ih (i + 1) (by omega)
      have e : v_chn c K B (i + 1) = v_chn c K B i * (if isCha (K i) then v_opt c K B i else 1) := rfl
      rw [e] at g
      refine wb_X8_chances_4 ?_
      rw [if_pos (nI_lt (by omega) (by omega))]
      refine cl_X8_chances_11 rfl (by decide) (sp_isChanceAt s (by omega)) ?_
      refine wb_X8_chances_14 ?_
      by_cases q : isCha (K i)
      · rw [if_pos q] at g
        rw [b2i_t q, if_neg (by decide), ix_nI (by omega), s.fan i (by omega), nI_mulI]
        refine ⟨in_nI (by omega) (by decide), ?_⟩
        refine wb_X8_chances_26 ?_
        rw [nI_s]
        exact g
      · rw [if_neg q, Nat.mul_one] at g
        rw [b2i_f q, if_pos rfl]
        refine wb_X8_chances_26 ?_
        rw [nI_s]
        exact g
  refine wb_X8_chances_0 ?_
  exact lp n 0 (by omega)
theorem sp_sight (s : tS 0 c n K P B S h) {j p : Nat} (hj : j ≤ n) (hp : p < 3) {m : Nat} {e : Nat → Nat} (o : okX 0 h m e) (hm : j ≤ m) : XX true 1 18 0 [.ref 66, .int (nI p), .int (nI j), ax_junk, ax_junk, ax_junk] [] (h) (some (.int (nI (v_view K P p j e j))), h) := by
  have h6 := s.n6
  have lp : ∀ k i, i + k = j → XX true 1 18 5 [.ref 66, .int (nI p), .int (nI j), .int (nI (v_view K P p j e i)), .int (nI i), ax_junk] [] (h) ((some (.int (nI (v_view K P p j e j))), h)) := by
    intro k
    induction k with
    | zero =>
      intro i hi
      obtain rfl : i = j := hi
      refine wb_X8_sight_5 ?_
      rw [if_neg (nI_nlt (Nat.le_refl _) (by omega))]
    | succ k ih =>
      intro i hi
      have g := ih (i + 1) (by omega)
      have e1 : v_view K P p j e (i + 1) = 8 * v_view K P p j e i + (if (v_seen K P i j).testBit p = true then e i + 1 else 0) := rfl
      rw [e1] at g
      have ro := row71 j (by omega) h
      have sv := v_seen_lt (K := K) (P := P) (i := i) j (fun a ha => (s.kk (i := a) (by omega)).2.1)
      refine wb_X8_sight_5 ?_
      rw [if_pos (nI_lt (by omega) (by omega)), ix_nI (by omega), ix_nI (by omega)]
      refine ⟨in_nI (by omega) (by decide), _, ro.1, 6, ro.2.1, in_nI (by omega) (by decide), ?_⟩
      rw [ro.2.2.1, s.see j hj i (by omega), v_vbit _ sv _ hp]
      by_cases q : (v_seen K P i j).testBit p = true
      · rw [if_pos q] at g ⊢
        rw [if_neg (by decide)]
        refine wb_X8_sight_32 ?_
        rw [if_neg (by decide), ix_nI (by omega), o i (by omega)]
        refine ⟨in_nI (by omega) (by decide), ?_⟩
        refine wb_X8_sight_56 ?_
        rw [nI_s, nI_mulI, nI_add, nI_s]
        exact g
      · rw [if_neg q] at g ⊢
        rw [if_pos rfl]
        refine wb_X8_sight_32 ?_
        rw [if_pos rfl]
        refine wb_X8_sight_56 ?_
        rw [nI_mulI, nI_add, nI_s]
        exact g
  refine wb_X8_sight_0 ?_
  exact lp j 0 (by omega)
theorem sp_sightOf (s : tS 0 c n K P B S h) {p j w : Nat} (hp : p < 3) (hj : j ≤ n) (hw : w < v_ways c K B j) : ∃ h', XX true 2 21 0 [.ref 66, .int (nI p), .int (nI w), .int (nI j)] [] (h) (some (.int (nI (v_vw c K P B p j w))), h') ∧ fr [(86, none)] h h' ∧ okX 0 h' j (v_what c K B j w) := by
  obtain ⟨h1, r, f, x⟩ := sp_t_go s hj hw
  refine ⟨h1, ?_, f, x⟩
  refine wb_X8_sightOf_0 ?_
  refine cl_X8_sightOf_3 rfl (by decide) (r) ?_
  refine wb_X8_sightOf_6 ?_
  refine cl_X8_sightOf_9 rfl (by decide) (sp_sight (s.fr f rfl rfl) hj hp x (Nat.le_refl _)) ?_
  refine wb_X8_sightOf_12 ?_
  rfl
abbrev v_al (c : Nat) (K P B : Nat → Nat) (p j : Nat) (v : Int32) (w : Nat) : Bool := decide (nI (v_vw c K P B p j w) = v)
theorem sp_alike (s : tS 0 c n K P B S h) {p j : Nat} (hp : p < 3) (hj : j ≤ n) (v : Int32) : ∃ h', XX true 3 20 0 [.ref 66, .int (nI p), .int (nI j), .int (v), ax_junk, ax_junk] [] (h) (some (.int (nI (cntN (v_al c K P B p j v) (v_ways c K B j)))), h') ∧ fr [(86, none)] h h' := by
  have h6 := s.n6
  have wl := v_ways_le s.ok hj
  have lp : ∀ k w, w + k = v_ways c K B j → ∀ h1, fr [(86, none)] h h1 → ∃ h', XX true 3 20 6 [.ref 66, .int (nI p), .int (nI j), .int (v), .int (nI (cntN (v_al c K P B p j v) w)), .int (nI w)] [] (h1) ((some (.int (nI (cntN (v_al c K P B p j v) (v_ways c K B j)))), h')) ∧ fr [(86, none)] h h' := by
    intro k
    induction k with
    | zero =>
      intro w hw h1 f
      obtain rfl : w = v_ways c K B j := hw
      have s1 : tS 0 c n K P B S h1 := s.fr f rfl rfl
      refine ⟨h1, ?_, f⟩
      refine wb_X8_alike_6 ?_
      rw [ix_nI (by omega), s1.beh j hj, if_neg (nI_nlt (Nat.le_refl _) (by omega))]
      exact ⟨in_nI (by omega) (by decide), rfl⟩
    | succ k ih =>
      intro w hw h1 f
      have s1 : tS 0 c n K P B S h1 := s.fr f rfl rfl
      obtain ⟨h2, r2, f2, _⟩ := sp_sightOf s1 hp hj (w := w) (by omega)
      obtain ⟨h', x, y⟩ := ih (w + 1) (by omega) h2 (f.trans f2)
      refine ⟨h', ?_, y⟩
      refine wb_X8_alike_6 ?_
      rw [ix_nI (by omega), s1.beh j hj, if_pos (nI_lt (by omega) (by omega))]
      refine ⟨in_nI (by omega) (by decide), ?_⟩
      refine cl_X8_alike_22 rfl (by decide) (r2) ?_
      refine wb_X8_alike_25 ?_
      by_cases q : nI (v_vw c K P B p j w) = v
      · rw [cntN_yes (decide_eq_true q)] at x
        rw [if_pos q]
        refine wb_X8_alike_32 ?_
        rw [nI_s, nI_s]
        exact x
      · rw [cntN_not (by simp [q])] at x
        rw [if_neg q]
        refine wb_X8_alike_32 ?_
        rw [nI_s]
        exact x
  obtain ⟨h', x, y⟩ := lp (v_ways c K B j) 0 (by omega) h fr.rfl'
  refine ⟨h', ?_, y⟩
  refine wb_X8_alike_0 ?_
  exact x
theorem sp_alikeAt_lp (s : tS 0 c n K P B S h) {p j : Nat} (hp : p < 3) (hj : j ≤ n) (v k : Int32) : ∀ m w, w + m = v_ways c K B j → ∀ h1, fr [(86, none)] h h1 → ∃ h', XX true 3 23 6 [.ref 66, .int (nI p), .int (nI j), .int (v), .int (k), .int (nI (cntN (v_al c K P B p j v) w)), .int (nI w)] [] (h1) ((some (.int (if v_at (fun w => v_al c K P B p j v w && decide (nI (cntN (v_al c K P B p j v) w) = k)) m w = v_ways c K B j then -nI 1 else nI (v_at (fun w => v_al c K P B p j v w && decide (nI (cntN (v_al c K P B p j v) w) = k)) m w))), h')) ∧ fr [(86, none)] h h' := by
  have h6 := s.n6
  have wl := v_ways_le s.ok hj
  intro m
  induction m with
  | zero =>
    intro w hw h1 f
    obtain rfl : w = v_ways c K B j := hw
    have s1 : tS 0 c n K P B S h1 := s.fr f rfl rfl
    refine ⟨h1, ?_, f⟩
    refine wb_X8_alikeAt_6 ?_
    rw [ix_nI (by omega), s1.beh j hj, if_neg (nI_nlt (Nat.le_refl _) (by omega)), v_at_0, if_pos rfl]
    exact ⟨in_nI (by omega) (by decide), rfl⟩
  | succ m ih =>
    intro w hw h1 f
    have s1 : tS 0 c n K P B S h1 := s.fr f rfl rfl
    obtain ⟨h2, r2, f2, _⟩ := sp_sightOf s1 hp hj (w := w) (by omega)
    have e : v_at (fun w => v_al c K P B p j v w && decide (nI (cntN (v_al c K P B p j v) w) = k)) (m + 1) w = if (v_al c K P B p j v w && decide (nI (cntN (v_al c K P B p j v) w) = k)) = true then w else v_at (fun w => v_al c K P B p j v w && decide (nI (cntN (v_al c K P B p j v) w) = k)) m (w + 1) := rfl
    obtain ⟨h', x, y⟩ := ih (w + 1) (by omega) h2 (f.trans f2)
    have pre : ∀ R, (XX true 3 23 25 [.ref 66, .int (nI p), .int (nI j), .int (v), .int (k), .int (nI (cntN (v_al c K P B p j v) w)), .int (nI w)] [.int (nI (v_vw c K P B p j w))] (h2) (R)) → XX true 3 23 6 [.ref 66, .int (nI p), .int (nI j), .int (v), .int (k), .int (nI (cntN (v_al c K P B p j v) w)), .int (nI w)] [] (h1) (R) := by
      intro R u
      refine wb_X8_alikeAt_6 ?_
      rw [ix_nI (by omega), s1.beh j hj, if_pos (nI_lt (by omega) (by omega))]
      refine ⟨in_nI (by omega) (by decide), ?_⟩
      refine cl_X8_alikeAt_22 rfl (by decide) (r2) ?_
      exact u
    by_cases q : nI (v_vw c K P B p j w) = v
    · rw [cntN_yes (decide_eq_true q)] at x
      by_cases r : nI (cntN (v_al c K P B p j v) w) = k
      · refine ⟨h2, pre _ ?_, f.trans f2⟩
        rw [e.trans (if_pos (by simp [v_al, q, r])), if_neg (by omega)]
        refine wb_X8_alikeAt_25 ?_
        rw [if_pos q, if_pos r]
      · refine ⟨h', pre _ ?_, y⟩
        rw [e.trans (if_neg (by simp [r]))]
        refine wb_X8_alikeAt_25 ?_
        rw [if_pos q, if_neg r]
        refine wb_X8_alikeAt_45 ?_
        rw [nI_s, nI_s]
        exact x
    · rw [cntN_not (by simp [q])] at x
      refine ⟨h', pre _ ?_, y⟩
      rw [e.trans (if_neg (by simp [v_al, q]))]
      refine wb_X8_alikeAt_25 ?_
      rw [if_neg q]
      refine wb_X8_alikeAt_45 ?_
      rw [nI_s]
      exact x
theorem sp_alikeAt (s : tS 0 c n K P B S h) {p j : Nat} (hp : p < 3) (hj : j ≤ n) (v k : Int32) : ∃ h', XX true 3 23 0 [.ref 66, .int (nI p), .int (nI j), .int (v), .int (k), ax_junk, ax_junk] [] (h) (some (.int (if v_at (fun w => v_al c K P B p j v w && decide (nI (cntN (v_al c K P B p j v) w) = k)) (v_ways c K B j) 0 = v_ways c K B j then -nI 1 else nI (v_at (fun w => v_al c K P B p j v w && decide (nI (cntN (v_al c K P B p j v) w) = k)) (v_ways c K B j) 0))), h') ∧ fr [(86, none)] h h' := by
  obtain ⟨h', x, y⟩ := sp_alikeAt_lp s hp hj v k (v_ways c K B j) 0 (by omega) h fr.rfl'
  refine ⟨h', ?_, y⟩
  refine wb_X8_alikeAt_0 ?_
  exact x
abbrev cfOt : List (Nat × Option Nat) := [(66, some 0), (66, some 3), (67, none)]
theorem sp_t_open (m : Int32) : ∃ h', XX true 1 88 0 [.ref 66, .int (m), ax_junk] [] (h) (none, h') ∧ fr cfOt h h' ∧ hI h' 66 0 = m ∧ hI h' 66 3 = nI 0 ∧ ∀ i, i < 5 → hI h' 67 i = nI 0 := by
  have lp : ∀ k i, i + k = 5 → ∀ h1, fr cfOt h h1 → hI h1 66 0 = m → hI h1 66 3 = nI 0 → (∀ a, a < i → hI h1 67 a = nI 0) → ∃ h', XX true 1 88 12 [.ref 66, ax_junk, .int (nI i)] [] (h1) ((none, h')) ∧ fr cfOt h h' ∧ hI h' 66 0 = m ∧ hI h' 66 3 = nI 0 ∧ ∀ i, i < 5 → hI h' 67 i = nI 0 := by
    intro k
    induction k with
    | zero =>
      intro i hi h1 f e1 e2 e3
      obtain rfl : i = 5 := hi
      refine ⟨h1, ?_, f, e1, e2, e3⟩
      refine wb_X8_open_12 ?_
      rw [if_neg (by decide)]
    | succ k ih =>
      intro i hi h1 f e1 e2 e3
      obtain ⟨h', x, y⟩ := ih (i + 1) (by omega) (ax_wr h1 67 i (.int (nI 0))) (f.wr' (by simp [inS])) (by rw [wr_Ia (by decide)]; exact e1) (by rw [wr_Ia (by decide)]; exact e2) (fun a ha => by
        by_cases z : a = i
        · rw [z, wr_I]
        · rw [wr_Ij z]
          exact e3 a (by omega))
      refine ⟨h', ?_, y⟩
      refine wb_X8_open_12 ?_
      rw [if_pos (nI_lt (by omega) (by omega)), ix_nI (by omega), nI_s]
      exact ⟨in_nI (by omega) (by decide), x⟩
  obtain ⟨h', x, y⟩ := lp 5 0 rfl (ax_wr (ax_wr h 66 0 (.int m)) 66 3 (.int (nI 0))) ((fr.wr rfl).wr' rfl) (by rw [wr_Ij (by decide), wr_I]) (wr_I _ _ _ _) (fun a ha => absurd ha (Nat.not_lt_zero _))
  refine ⟨h', ?_, y⟩
  refine wb_X8_open_0 ?_
  exact x
end S58
