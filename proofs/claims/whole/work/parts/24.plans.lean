/-! PLANS: told for a player, a stage and a view -/
def updN {α : Type} (f : Nat → α) (k : Nat) (v : α) : Nat → α := fun i => if i = k then v else f i
theorem updN_s {α : Type} (f : Nat → α) (k : Nat) (v : α) : updN f k v k = v := if_pos rfl
theorem updN_o {α : Type} {f : Nat → α} {k : Nat} {v : α} {i : Nat} (h : i ≠ k) : updN f k v i = f i := if_neg h
/-- the first from k on that is so; past the end where none is -/
def v_at (q : Nat → Bool) : Nat → Nat → Nat
  | 0, k => k
  | f + 1, k => if q k = true then k else v_at q f (k + 1)
theorem v_at_le (q : Nat → Bool) : ∀ f k, k ≤ v_at q f k ∧ v_at q f k ≤ k + f
  | 0, k => ⟨Nat.le_refl _, Nat.le_refl _⟩
  | f + 1, k => by
    have ih := v_at_le q f (k + 1)
    unfold v_at
    split <;> omega
theorem v_at_is (q : Nat → Bool) : ∀ f k, v_at q f k < k + f → q (v_at q f k) = true
  | 0, k, h => absurd h (Nat.lt_irrefl _)
  | f + 1, k, h => by
    unfold v_at at h ⊢
    by_cases c : q k = true
    · rw [if_pos c]
      exact c
    · rw [if_neg c] at h ⊢
      exact v_at_is q f (k + 1) (by omega)
theorem v_at_not (q : Nat → Bool) : ∀ f k i, k ≤ i → i < v_at q f k → q i = false
  | 0, k, i, h, h2 => absurd h2 (Nat.not_lt.mpr h)
  | f + 1, k, i, h, h2 => by
    unfold v_at at h2
    by_cases c : q k = true
    · rw [if_pos c] at h2
      exact absurd h2 (Nat.not_lt.mpr h)
    · rw [if_neg c] at h2
      by_cases e : i = k
      · subst e
        exact Bool.eq_false_iff.mpr c
      · exact v_at_not q f (k + 1) i (by omega) h2
abbrev v_key (p j v : Nat) : Nat := v * 32 + j * 4 + p
def mP (np : Nat) (T C : Nat → Nat) (h : AH) : Prop := np ≤ 40 ∧ hI h 153 6 = nI np ∧ ∀ k, k < np → T k < 16777216 ∧ C k < 3 ∧ hI h 158 (4 * k) = nI (T k % 4) ∧ hI h 158 (4 * k + 1) = nI (T k / 4 % 8) ∧ hI h 158 (4 * k + 2) = nI (T k / 32) ∧ hI h 158 (4 * k + 3) = nI (C k)
theorem mP.fr {np : Nat} {T C : Nat → Nat} {h h' : AH} (s : mP np T C h) {L : List (Nat × Option Nat)} (f : fr L h h') (q : subS L [(160, none), (161, none), (162, none), (163, none), (164, none), (165, none), (166, none), (167, none), (168, none), (169, none), (170, none), (171, none), (172, none), (173, none), (174, none), (175, none), (176, none), (177, none), (178, none), (179, none), (180, none), (154, none), (155, none), (156, none), (157, none), (159, none), (153, some 0), (153, some 2), (153, some 8), (153, some 10), (153, some 14), (153, some 16), (153, some 19), (153, some 23), (153, some 25), (153, some 26), (153, some 27), (153, some 28), (153, some 29), (153, some 40), (153, some 42), (153, some 43), (153, some 44)] = true) : mP np T C h' := by
  have g := f.mono q
  refine ⟨s.1, (g.I rfl).trans s.2.1, fun k hk => ?_⟩
  obtain ⟨a, b, c, d, e, z⟩ := s.2.2 k hk
  exact ⟨a, b, (g.I rfl).trans c, (g.I rfl).trans d, (g.I rfl).trans e, (g.I rfl).trans z⟩
/-- where a plan stands that is told for these -/
abbrev v_pat (np : Nat) (T : Nat → Nat) (p j v : Nat) : Nat := v_at (fun k => decide (T k = v_key p j v)) np 0
/-- what the plans choose -/
def v_chs (np : Nat) (T C B : Nat → Nat) (p j v : Nat) : Nat := if v_pat np T p j v = np ∨ B j ≤ C (v_pat np T p j v) then 0 else C (v_pat np T p j v)
theorem v_chs_lt {np : Nat} {T C B : Nat → Nat} {p j v : Nat} (h : 1 ≤ B j) : v_chs np T C B p j v < B j := by
  unfold v_chs
  split <;> omega
section S24
variable {c n np : Nat} {K P B T C : Nat → Nat} {h h' : AH}
theorem sp_planAt (s : mP np T C h) {p j v : Nat} (hp : p < 4) (hj : j < 8) (hv : v < 524288) : XX true 1 191 0 [.ref 153, .int (nI p), .int (nI j), .int (nI v), ax_junk] [] (h) (some (.int (if v_pat np T p j v = np then -nI 1 else nI (v_pat np T p j v))), h) := by
  have h40 := s.1
  have lp : ∀ f k, k + f = np → XX true 1 191 3 [.ref 153, .int (nI p), .int (nI j), .int (nI v), .int (nI k)] [] (h) ((some (.int (if v_at (fun k => decide (T k = v_key p j v)) f k = np then -nI 1 else nI (v_at (fun k => decide (T k = v_key p j v)) f k))), h)) := by
    intro f
    induction f with
    | zero =>
      intro k hk
      obtain rfl : k = np := hk
      refine wb_X12_planAt_3 ?_
      rw [s.2.1, if_neg (nI_nlt (Nat.le_refl _) (by omega))]
      have z : v_at (fun k => decide (T k = v_key p j v)) 0 k = k := rfl
      rw [z, if_pos rfl]
    | succ f ih =>
      intro k hk
      obtain ⟨t, _, c1, c2, c3, c4⟩ := s.2.2 k (by omega)
      refine wb_X12_planAt_3 ?_
      rw [s.2.1, if_pos (nI_lt (by omega) (by omega)), nI_mulI, nI_add, nI_add, ix_nI (by omega), ix_nI (by omega), ix_nI (by omega), c1, c2, c3]
      refine ⟨in_nI (by omega) (by decide), ?_⟩
      have nx : XX true 1 191 58 [.ref 153, .int (nI p), .int (nI j), .int (nI v), .int (nI k)] [] (h) ((some (.int (if v_at (fun k => decide (T k = v_key p j v)) f (k + 1) = np then -nI 1 else nI (v_at (fun k => decide (T k = v_key p j v)) f (k + 1)))), h)) := by
        refine wb_X12_planAt_58 ?_
        rw [nI_s]
        exact ih (k + 1) (by omega)
      have e1 : v_at (fun k => decide (T k = v_key p j v)) (f + 1) k = if T k = v_key p j v then k else v_at (fun k => decide (T k = v_key p j v)) f (k + 1) := by
        show (if decide (T k = v_key p j v) = true then k else _) = _
        simp only [decide_eq_true_eq]
      rw [e1]
      by_cases q : T k = v_key p j v
      · have q1 : v * 32 + j * 4 + p = T k := q.symm
        rw [if_pos q, if_pos (congrArg nI (by omega)), if_pos (congrArg nI (by omega)), if_pos (congrArg nI (by omega)), if_neg (by omega)]
        exact ⟨in_nI (by omega) (by decide), in_nI (by omega) (by decide), rfl⟩
      · rw [if_neg q]
        have q1 : ¬ v * 32 + j * 4 + p = T k := fun z => q z.symm
        by_cases q2 : T k % 4 = p
        · rw [if_pos (congrArg nI q2)]
          refine ⟨in_nI (by omega) (by decide), ?_⟩
          by_cases q3 : T k / 4 % 8 = j
          · rw [if_pos (congrArg nI q3)]
            refine ⟨in_nI (by omega) (by decide), ?_⟩
            rw [if_neg (fun z => q1 (by have := (nI_eq (by omega) (by omega)).mp z; omega))]
            exact nx
          · rw [if_neg (fun z => q3 ((nI_eq (by omega) (by omega)).mp z))]
            exact nx
        · rw [if_neg (fun z => q2 ((nI_eq (by omega) (by omega)).mp z))]
          exact nx
  refine wb_X12_planAt_0 ?_
  exact lp np 0 (by omega)
theorem sp_chosen (s : mS c n K P B h) (t : mP np T C h) {p j v : Nat} (hp : p < 4) (hj : j < n) (hv : v < 524288) : XX true 2 190 0 [.ref 153, .int (nI p), .int (nI j), .int (nI v), ax_junk] [] (h) (some (.int (nI (v_chs np T C B p j v))), h) := by
  have h6 := s.n6
  have h40 := t.1
  have ok := s.ok hj
  have le : 0 ≤ v_pat np T p j v ∧ v_pat np T p j v ≤ 0 + np := v_at_le (fun k => decide (T k = v_key p j v)) np 0
  have rt : XX true 2 190 35 [ax_junk, ax_junk, ax_junk, ax_junk, ax_junk] [] (h) ((some (.int (nI 0)), h)) := by
    refine wb_X12_chosen_35 ?_
    rfl
  refine wb_X12_chosen_0 ?_
  refine (cl_X12_chosen_4 rfl (by decide) (sp_planAt t hp (by omega) hv)).mpr ?_
  refine wb_X12_chosen_7 ?_
  unfold v_chs
  by_cases q : v_pat np T p j v = np
  · rw [if_pos q, if_pos rfl, if_pos (Or.inl q)]
    exact wk_X12_chosen_35 rt
  · rw [if_neg q, if_neg (nI_ne1 (by omega))]
    obtain ⟨_, _, c1, c2, c3, c4⟩ := t.2.2 (v_pat np T p j v) (by omega)
    rw [nI_mulI, nI_add, ix_nI (by omega), ix_nI (by omega), c4, s.BB hj]
    refine ⟨in_nI (by omega) (by decide), in_nI (by omega) (by decide), ?_⟩
    have hb : B j ≤ 3 := by
      by_cases z : hasN (K j)
      · have := ok.2.2.1 z; omega
      · have := ok.2.2.2.1 z; omega
    by_cases r : B j ≤ C (v_pat np T p j v)
    · rw [if_pos (Or.inr r), if_neg (nI_nlt r (by omega))]
      exact wk_X12_chosen_35 rt
    · have nq : ¬ (v_pat np T p j v = np ∨ B j ≤ C (v_pat np T p j v)) := by omega
      rw [if_neg nq, if_pos (nI_lt (by omega) (by omega))]
      exact ⟨in_nI (by omega) (by decide), rfl⟩
/-- the plans with one told more, where there was room -/
def v_tok (np : Nat) (T : Nat → Nat) (p j v : Nat) : Prop := v_pat np T p j v < 40
abbrev v_tn (np : Nat) (T : Nat → Nat) (p j v : Nat) : Nat := if v_pat np T p j v = np then np + 1 else np
theorem sp_tells_no (t : mP np T C h) {p j v x : Nat} (hp : p < 4) (hj : j < 8) (hv : v < 524288) (hx : x < 3) (ok : ¬ v_tok np T p j v) : XX true 2 200 0 [.ref 153, .int (nI p), .int (nI j), .int (nI v), .int (nI x), ax_junk] [] (h) (some (.int (nI 0)), h) := by
  have h40 := t.1
  have le : 0 ≤ v_pat np T p j v ∧ v_pat np T p j v ≤ 0 + np := v_at_le (fun k => decide (T k = v_key p j v)) np 0
  unfold v_tok at ok
  refine wb_X12_tells_0 ?_
  refine (cl_X12_tells_4 rfl (by decide) (sp_planAt t hp (by omega) hv)).mpr ?_
  refine wb_X12_tells_7 ?_
  have q : v_pat np T p j v = np := by omega
  rw [if_pos q, if_pos rfl, t.2.1, if_pos (congrArg nI (by omega))]
theorem sp_tells (t : mP np T C h) {p j v x : Nat} (hp : p < 4) (hj : j < 8) (hv : v < 524288) (hx : x < 3) (ok : v_tok np T p j v) : ∃ h', XX true 2 200 0 [.ref 153, .int (nI p), .int (nI j), .int (nI v), .int (nI x), ax_junk] [] (h) (some (.int (nI 1)), h') ∧ fr [(158, none), (153, some 6)] h h' ∧ mP (v_tn np T p j v) (updN T (v_pat np T p j v) (v_key p j v)) (updN C (v_pat np T p j v) x) h' := by
  have h40 := t.1
  have le : 0 ≤ v_pat np T p j v ∧ v_pat np T p j v ≤ 0 + np := v_at_le (fun k => decide (T k = v_key p j v)) np 0
  unfold v_tok at ok
  have fin : ∀ h1, fr [(153, some 6)] h h1 → hI h1 153 6 = nI (v_tn np T p j v) → ∃ h', XX true 2 200 48 [.ref 153, .int (nI p), .int (nI j), .int (nI v), .int (nI x), .int (nI (v_pat np T p j v))] [] (h1) ((some (.int (nI 1)), h')) ∧ fr [(158, none), (153, some 6)] h h' ∧ mP (v_tn np T p j v) (updN T (v_pat np T p j v) (v_key p j v)) (updN C (v_pat np T p j v) x) h' := by
    intro h1 f e
    refine ⟨ax_wr (ax_wr (ax_wr (ax_wr h1 158 (4 * v_pat np T p j v) (.int (nI p))) 158 (4 * v_pat np T p j v + 1) (.int (nI j))) 158 (4 * v_pat np T p j v + 2) (.int (nI v))) 158 (4 * v_pat np T p j v + 3) (.int (nI x)), ?_, ?_, ?_⟩
    · refine wb_X12_tells_48 ?_
      rw [nI_mulI, nI_add, nI_add, nI_add, ix_nI (by omega), ix_nI (by omega), ix_nI (by omega), ix_nI (by omega)]
      exact ⟨in_nI (by omega) (by decide), in_nI (by omega) (by decide), in_nI (by omega) (by decide), in_nI (by omega) (by decide), rfl⟩
    · exact ((((f.mono rfl).wr' (by simp [inS])).wr' (by simp [inS])).wr' (by simp [inS])).wr' (by simp [inS])
    · refine ⟨by unfold v_tn; split <;> omega, ?_, fun k hk => ?_⟩
      · rw [wr_Ia (by decide), wr_Ia (by decide), wr_Ia (by decide), wr_Ia (by decide), e]
      · by_cases q : k = v_pat np T p j v
        · rw [q, updN_s, updN_s]
          refine ⟨by unfold v_key; omega, hx, ?_, ?_, ?_, ?_⟩
          · rw [wr_Ij (by omega), wr_Ij (by omega), wr_Ij (by omega), wr_I, show v_key p j v % 4 = p by unfold v_key; omega]
          · rw [wr_Ij (by omega), wr_Ij (by omega), wr_I, show v_key p j v / 4 % 8 = j by unfold v_key; omega]
          · rw [wr_Ij (by omega), wr_I, show v_key p j v / 32 = v by unfold v_key; omega]
          · rw [wr_I]
        · rw [updN_o q, updN_o q]
          have kn : k < np := by
            unfold v_tn at hk
            split at hk <;> omega
          obtain ⟨t1, t2, c1, c2, c3, c4⟩ := t.2.2 k kn
          have g : ∀ a, hI h1 158 a = hI h 158 a := fun a => f.I rfl
          refine ⟨t1, t2, ?_, ?_, ?_, ?_⟩ <;> rw [wr_Ij (by omega), wr_Ij (by omega), wr_Ij (by omega), wr_Ij (by omega), g] <;> assumption
  have en : ∀ h', (v_pat np T p j v = np → XX true 2 200 48 [.ref 153, .int (nI p), .int (nI j), .int (nI v), .int (nI x), .int (nI np)] [] (ax_wr h 153 6 (.int (nI (np + 1)))) ((some (.int (nI 1)), h'))) → (v_pat np T p j v < np → XX true 2 200 48 [.ref 153, .int (nI p), .int (nI j), .int (nI v), .int (nI x), .int (nI (v_pat np T p j v))] [] (h) ((some (.int (nI 1)), h'))) → XX true 2 200 0 [.ref 153, .int (nI p), .int (nI j), .int (nI v), .int (nI x), ax_junk] [] (h) (some (.int (nI 1)), h') := by
    intro h' a b
    refine wb_X12_tells_0 ?_
    refine (cl_X12_tells_4 rfl (by decide) (sp_planAt t hp (by omega) hv)).mpr ?_
    refine wb_X12_tells_7 ?_
    by_cases q : v_pat np T p j v = np
    · rw [if_pos q, if_pos rfl, t.2.1, if_neg (fun z => by have := (nI_eq (by omega) (by omega)).mp z; omega)]
      refine wb_X12_tells_26 ?_
      rw [if_pos rfl, t.2.1, nI_s]
      exact a q
    · rw [if_neg q, if_neg (nI_ne1 (by omega))]
      refine wb_X12_tells_26 ?_
      rw [if_neg (nI_ne1 (by omega))]
      exact b (by omega)
  by_cases q : v_pat np T p j v = np
  · obtain ⟨h', r, f, m⟩ := fin (ax_wr h 153 6 (.int (nI (np + 1)))) (fr.wr rfl) (by rw [wr_I]; unfold v_tn; rw [if_pos q])
    refine ⟨h', en h' (fun _ => ?_) (fun z => absurd q (by omega)), f, m⟩
    rw [q] at r
    exact r
  · obtain ⟨h', r, f, m⟩ := fin h fr.rfl' (by rw [t.2.1]; unfold v_tn; rw [if_neg q])
    exact ⟨h', en h' (fun z => absurd z q) (fun _ => r), f, m⟩
/-- whether the first stages go by plans, but for one player's -/
def v_pl (K P : Nat → Nat) (ch : Nat → Nat → Nat → Nat) (but : Nat) (e : Nat → Nat) : Nat → Bool
  | 0 => true
  | i + 1 => v_pl K P ch but e i && (decide (¬ isChc (K i)) || decide (P i = but) || decide (e i = ch (P i) i (v_view K P (P i) i e i)))
theorem v_pl_down {K P : Nat → Nat} {ch : Nat → Nat → Nat → Nat} {but : Nat} {e : Nat → Nat} {i : Nat} (q : v_pl K P ch but e i = false) : ∀ k, v_pl K P ch but e (i + k) = false
  | 0 => q
  | k + 1 => by
    show (v_pl K P ch but e (i + k) && _) = false
    rw [v_pl_down q k]
    rfl
theorem sp_isPlayed (s : mS c n K P B h) (t : mP np T C h) {j m : Nat} (hj : j ≤ n) {e : Nat → Nat} (o : okO h m e) (hm : j ≤ m) (he : ∀ i, i < j → e i < 5) {b : Int32} {but : Nat} (hb : ∀ x, x < 3 → (nI x = b ↔ x = but)) : XX true 3 189 0 [.ref 153, .int (nI j), .int (b), ax_junk, ax_junk] [] (h) (some (.int (b2i (v_pl K P (v_chs np T C B) but e j = true))), h) := by
  have h6 := s.n6
  have lp : ∀ k i, i + k = j → XX true 3 189 5 [.ref 153, .int (nI j), .int (b), .int (b2i (v_pl K P (v_chs np T C B) but e i = true)), .int (nI i)] [] (h) ((some (.int (b2i (v_pl K P (v_chs np T C B) but e j = true))), h)) := by
    intro k
    induction k with
    | zero =>
      intro i hi
      obtain rfl : i = j := hi
      refine wb_X12_isPlayed_5 ?_
      rw [if_neg (nI_nlt (Nat.le_refl _) (by omega))]
      exact ⟨b2i_01 _, rfl⟩
    | succ k ih =>
      intro i hi
      have nx := ih (i + 1) (by omega)
      have ok := s.ok (i := i) (by omega)
      have e1 : v_pl K P (v_chs np T C B) but e (i + 1) = (v_pl K P (v_chs np T C B) but e i && (decide (¬ isChc (K i)) || decide (P i = but) || decide (e i = v_chs np T C B (P i) i (v_view K P (P i) i e i)))) := rfl
      rw [e1] at nx
      refine wb_X12_isPlayed_5 ?_
      rw [if_pos (nI_lt (by omega) (by omega))]
      by_cases q : v_pl K P (v_chs np T C B) but e i = true
      · rw [b2i_t q, if_neg (by decide)]
        refine ⟨in_nI (by omega) (by decide), ?_⟩
        rw [ix_nI (by omega), s.KK (by omega)]
        refine (cl_X12_isPlayed_22 rfl (by decide) (sp_isChoice (by omega) h)).mpr ?_
        refine wb_X12_isPlayed_25 ?_
        rw [q, Bool.true_and] at nx
        have go : ∀ x : Bool, (decide (¬ isChc (K i)) || decide (P i = but) || decide (e i = v_chs np T C B (P i) i (v_view K P (P i) i e i))) = x → XX true 3 189 80 [.ref 153, .int (nI j), .int (b), ax_junk, .int (nI i)] [.int ((if x = true then nI 1 else nI 0))] (h) ((some (.int (b2i (v_pl K P (v_chs np T C B) but e j = true))), h)) := by
          intro x hx
          rw [hx] at nx
          refine wb_X12_isPlayed_80 ?_
          rw [nI_s]
          exact nx
        have g1 : (decide (¬ isChc (K i)) || decide (P i = but) || decide (e i = v_chs np T C B (P i) i (v_view K P (P i) i e i))) = true → XX true 3 189 75 [.ref 153, .int (nI j), .int (b), ax_junk, .int (nI i)] [] (h) ((some (.int (b2i (v_pl K P (v_chs np T C B) but e j = true))), h)) := by
          intro z
          have g := go true z
          rw [if_pos rfl] at g
          refine wb_X12_isPlayed_75 ?_
          exact g
        by_cases qc : isChc (K i)
        · rw [b2i_t qc, if_neg (by decide)]
          refine ⟨in_nI (by omega) (by decide), ?_⟩
          rw [ix_nI (by omega), s.PP (by omega)]
          by_cases qb : P i = but
          · rw [if_pos ((hb _ ok.2.1).mpr qb)]
            exact wk_X12_isPlayed_75 (g1 (by simp [qb]))
          · rw [if_neg (fun z => qb ((hb _ ok.2.1).mp z))]
            refine ⟨in_nI (by omega) (by decide), in_nI (by omega) (by decide), in_nI (by omega) (by decide), ?_⟩
            rw [o i (by omega)]
            refine (cl_X12_isPlayed_66 rfl (by decide) (sp_viewOf s (by omega) ok.2.1 o (by omega))).mpr ?_
            have vl := v_view_lt (K := K) (P := P) (p := P i) (j := i) (e := e) i (fun a ha => he a (by omega))
            have : 8 ^ i ≤ 8 ^ 6 := Nat.pow_le_pow_right (by decide) (by omega)
            refine (cl_X12_isPlayed_69 rfl (by decide) (sp_chosen s t (by omega) (by omega) (by omega))).mpr ?_
            refine wb_X12_isPlayed_72 ?_
            have cl : v_chs np T C B (P i) i (v_view K P (P i) i e i) < B i := v_chs_lt (by have := ok.2.2.1 (by omega); omega)
            have bl := ok.2.2.1 (by omega)
            have el := he i (by omega)
            by_cases qe : e i = v_chs np T C B (P i) i (v_view K P (P i) i e i)
            · rw [if_pos (congrArg nI qe)]
              exact wk_X12_isPlayed_75 (g1 (by rw [decide_eq_true qe]; simp))
            · rw [if_neg (fun z => qe ((nI_eq (by omega) (by omega)).mp z))]
              have g := go false (by simp [qc, qb, qe])
              rw [if_neg (by decide)] at g
              exact wk_X12_isPlayed_80 g
        · rw [b2i_f qc, if_pos rfl]
          exact wk_X12_isPlayed_75 (g1 (by simp [qc]))
      · have q' : v_pl K P (v_chs np T C B) but e i = false := Bool.eq_false_iff.mpr q
        rw [b2i_f q, if_pos rfl]
        refine ⟨Or.inl rfl, ?_⟩
        have z := v_pl_down q' (k + 1)
        rw [hi] at z
        rw [b2i_f (by rw [z]; decide)]
  refine wb_X12_isPlayed_0 ?_
  exact lp j 0 (by omega)
end S24
