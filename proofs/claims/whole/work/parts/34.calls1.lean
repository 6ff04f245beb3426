/-! THE REFERENCE'S CALLS: stages, ways, views. What they answer -/
abbrev isPl (p : Int32) : Prop := nI 0 ≤ p ∧ p ≤ nI 2
abbrev isPt (p : Int32) : Prop := nI 0 ≤ p ∧ p ≤ nI 1
abbrev isLt (n : Nat) (i : Int32) : Prop := nI 0 ≤ i ∧ i < nI n
abbrev isLe (n : Nat) (i : Int32) : Prop := nI 0 ≤ i ∧ i ≤ nI n
theorem isPl.ex {p : Int32} (h : isPl p) : ∃ k, k < 3 ∧ p = nI k := by
  obtain ⟨k, a, b⟩ := nI_of3 (by decide) h.1 h.2
  exact ⟨k, by omega, b⟩
theorem isLe.ex {n : Nat} {p : Int32} (hn : n < 2 ^ 31) (h : isLe n p) : ∃ k, k ≤ n ∧ p = nI k := nI_of3 hn h.1 h.2
theorem isLt.ex {n : Nat} {p : Int32} (hn : n < 2 ^ 31) (h : isLt n p) : ∃ k, k < n ∧ p = nI k := by
  obtain ⟨k, a, b⟩ := nI_of3 hn h.1 (Int32.le_of_lt h.2)
  refine ⟨k, ?_, b⟩
  rw [b] at h
  exact (nI_ltI (by omega) hn).mp h.2
theorem isLt_nI {n k : Nat} (hn : n < 2 ^ 31) (hk : k < 2 ^ 31) : isLt n (nI k) ↔ k < n := ⟨fun h => (nI_ltI hk hn).mp h.2, fun h => ⟨nI_le (Nat.zero_le _) hk, nI_lt h hn⟩⟩
theorem isLe_nI {n k : Nat} (hn : n < 2 ^ 31) (hk : k < 2 ^ 31) : isLe n (nI k) ↔ k ≤ n := ⟨fun h => (nI_leI hk hn).mp h.2, fun h => ⟨nI_le (Nat.zero_le _) hk, nI_le h hn⟩⟩
theorem nI_pred' {j : Nat} (hj : j < 2 ^ 31) : (nI j - nI 1).toInt = (j : Int) - 1 := by
  by_cases h : j = 0
  · subst h
    decide
  · rw [nI_subI (by omega), nI_toInt (by omega)]
    omega
theorem in_pred {j : Nat} (hj : j < 2 ^ 31) (i : Int32) : (lN 0 ≤ i.toInt64 ∧ i.toInt64 ≤ (nI j - nI 1).toInt64) ↔ isLt j i := by
  rw [lN_nI (by decide : 0 < 2 ^ 31), toI64_le, toI64_le]
  refine and_congr Iff.rfl ?_
  rw [Int32.le_iff_toInt_le, Int32.lt_iff_toInt_lt, nI_pred' hj, nI_toInt hj]
  omega
theorem sw_no3 {x : Int32} (h0 : x ≠ nI 0) (h1 : x ≠ nI 1) (h2 : x ≠ nI 2) (h3 : x ≠ nI 3) : x.toInt < 0 ∨ 3 < x.toInt := by
  have e : ∀ k, k < 4 → x ≠ nI k → x.toInt ≠ (k : Int) := fun k hk h z => h (Int32.toInt.inj (by rw [z, nI_toInt (by omega)]))
  have a0 := e 0 (by decide) h0
  have a1 := e 1 (by decide) h1
  have a2 := e 2 (by decide) h2
  have a3 := e 3 (by decide) h3
  omega
theorem v_at_0 (q : Nat → Bool) (k : Nat) : v_at q 0 k = k := rfl
section S34
variable {c n np nr : Nat} {K P B T C : Nat → Nat} {h h' : AH}
def a_stageOf (n : Nat) (K P B : Nat → Nat) (i w : Int32) : Int32 := if isLt n i then (if w = nI 0 then nI (K (ix i)) else if w = nI 1 then nI (P (ix i)) else if w = nI 2 then nI (B (ix i)) else if w = nI 3 then nI (v_seen K P (ix i) n) else -nI 2) else -nI 2
theorem mo_stageOf (s : mS c n K P B h) (i w : Int32) : XX true 3 166 0 [.ref 153, .int (i), .int (w)] [] (h) (some (.int (a_stageOf n K P B i w)), h) := by
  have h6 := s.n6
  refine wb_X12_stageOf_0 ?_
  refine (cl_X12_stageOf_2 rfl (by decide) (sp_isStage s i)).mpr ?_
  refine wb_X12_stageOf_5 ?_
  unfold a_stageOf
  by_cases q : isLt n i
  · rw [b2i_t q, if_neg (by decide), if_pos q]
    obtain ⟨k, hk, rfl⟩ := q.ex (by omega)
    rw [ix_nI (by omega)]
    by_cases w0 : w = nI 0
    · rw [if_pos w0]
      refine (sw_X12_stageOf_12_0 w0).mpr ?_
      refine wb_X12_stageOf_44 ?_
      rw [ix_nI (by omega), s.KK hk]
      exact ⟨in_nI (by omega) (by decide), rfl⟩
    · rw [if_neg w0]
      by_cases w1 : w = nI 1
      · rw [if_pos w1]
        refine (sw_X12_stageOf_12_1 w1).mpr ?_
        refine wb_X12_stageOf_51 ?_
        rw [ix_nI (by omega), s.PP hk]
        exact ⟨in_nI (by omega) (by decide), rfl⟩
      · rw [if_neg w1]
        by_cases w2 : w = nI 2
        · rw [if_pos w2]
          refine (sw_X12_stageOf_12_2 w2).mpr ?_
          refine wb_X12_stageOf_58 ?_
          rw [ix_nI (by omega), s.BB hk]
          exact ⟨in_nI (by omega) (by decide), rfl⟩
        · rw [if_neg w2]
          by_cases w3 : w = nI 3
          · rw [if_pos w3]
            refine (sw_X12_stageOf_12_3 w3).mpr ?_
            refine wb_X12_stageOf_65 ?_
            rw [s.nn]
            refine (cl_X12_stageOf_71 rfl (by decide) (sp_seenBy s hk (Nat.le_refl _))).mpr ?_
            refine wb_X12_stageOf_74 ?_
            rfl
          · rw [if_neg w3]
            refine (sw_X12_stageOf_12_d (sw_no3 w0 w1 w2 w3)).mpr ?_
            refine wb_X12_stageOf_75 ?_
            rfl
  · rw [b2i_f q, if_pos rfl, if_neg q]
def a_seen (n : Nat) (K P : Nat → Nat) (i j : Int32) : Int32 := if isLe n j ∧ isLt (ix j) i then nI (v_seen K P (ix i) (ix j)) else -nI 2
theorem mo_seen (s : mS c n K P B h) (i j : Int32) : XX true 3 169 0 [.ref 153, .int (i), .int (j)] [] (h) (some (.int (a_seen n K P i j)), h) := by
  have h6 := s.n6
  refine wb_X12_seen_0 ?_
  refine (cl_X12_seen_2 rfl (by decide) (sp_isBehind s j)).mpr ?_
  refine wb_X12_seen_5 ?_
  unfold a_seen
  by_cases q : isLe n j
  · rw [b2i_t q, if_neg (by decide)]
    obtain ⟨k, hk, rfl⟩ := q.ex (by omega)
    rw [ix_nI (by omega)]
    refine (cl_X12_seen_15 rfl (by decide) (sp_in _ _ _ _)).mpr ?_
    refine wb_X12_seen_18 ?_
    rw [b2i_cong (in_pred (by omega) i)]
    by_cases q2 : isLt k i
    · rw [b2i_t q2, if_neg (by decide), if_pos ⟨q, q2⟩]
      obtain ⟨a, ha, rfl⟩ := q2.ex (by omega)
      refine (cl_X12_seen_24 rfl (by decide) (sp_seenBy s ha hk)).mpr ?_
      refine wb_X12_seen_27 ?_
      rw [ix_nI (by omega)]
    · rw [b2i_f q2, if_pos rfl, if_neg (fun z => q2 z.2)]
  · rw [b2i_f q, if_pos rfl, if_neg (fun z => q z.1)]
def a_ways (c n : Nat) (K B : Nat → Nat) (j : Int32) : Int32 := if isLe n j then nI (v_ways c K B (ix j)) else -nI 2
theorem mo_ways (s : mS c n K P B h) (j : Int32) : XX true 5 172 0 [.ref 153, .int (j)] [] (h) (some (.int (a_ways c n K B j)), h) := by
  have h6 := s.n6
  refine wb_X12_ways_0 ?_
  refine (cl_X12_ways_2 rfl (by decide) (sp_isBehind s j)).mpr ?_
  refine wb_X12_ways_5 ?_
  unfold a_ways
  by_cases q : isLe n j
  · rw [b2i_t q, if_neg (by decide), if_pos q]
    obtain ⟨k, hk, rfl⟩ := q.ex (by omega)
    refine (cl_X12_ways_10 rfl (by decide) (sp_waysBehind s hk)).mpr ?_
    refine wb_X12_ways_13 ?_
    rw [ix_nI (by omega)]
  · rw [b2i_f q, if_pos rfl, if_neg q]
def a_happened (c n : Nat) (K B : Nat → Nat) (w i : Int32) : Int32 := if isLt (v_ways c K B n) w ∧ isLt n i then nI (v_what c K B n (ix w) (ix i)) else -nI 2
theorem mo_happened (s : mS c n K P B h) (w i : Int32) : ∃ h', XX true 6 175 0 [.ref 153, .int (w), .int (i)] [] (h) (some (.int (a_happened c n K B w i)), h') ∧ fr [(160, none)] h h' := by
  have h6 := s.n6
  have wl := v_ways_le s.1 (Nat.le_refl n)
  unfold a_happened
  by_cases q : isLt (v_ways c K B n) w
  · by_cases q2 : isLt n i
    · rw [if_pos ⟨q, q2⟩]
      obtain ⟨k, hk, rfl⟩ := q.ex (by omega)
      obtain ⟨a, ha, rfl⟩ := q2.ex (by omega)
      obtain ⟨h1, r, f, o⟩ := sp_lays s (Nat.le_refl _) hk
      refine ⟨h1, ?_, f⟩
      refine wb_X12_happened_0 ?_
      refine (cl_X12_happened_2 rfl (by decide) (sp_isWay s _)).mpr ?_
      refine wb_X12_happened_5 ?_
      rw [b2i_t q, if_neg (by decide)]
      refine (cl_X12_happened_10 rfl (by decide) (sp_isStage s _)).mpr ?_
      refine wb_X12_happened_13 ?_
      rw [b2i_t q2, if_neg (by decide), s.nn]
      refine (cl_X12_happened_25 rfl (by decide) (r)).mpr ?_
      refine wb_X12_happened_28 ?_
      rw [ix_nI (by omega), ix_nI (by omega), o a ha]
      exact ⟨in_nI (by omega) (by decide), rfl⟩
    · rw [if_neg (fun z => q2 z.2)]
      refine ⟨h, ?_, fr.rfl'⟩
      refine wb_X12_happened_0 ?_
      refine (cl_X12_happened_2 rfl (by decide) (sp_isWay s _)).mpr ?_
      refine wb_X12_happened_5 ?_
      rw [b2i_t q, if_neg (by decide)]
      refine (cl_X12_happened_10 rfl (by decide) (sp_isStage s _)).mpr ?_
      refine wb_X12_happened_13 ?_
      rw [b2i_f q2, if_pos rfl]
  · rw [if_neg (fun z => q z.1)]
    refine ⟨h, ?_, fr.rfl'⟩
    refine wb_X12_happened_0 ?_
    refine (cl_X12_happened_2 rfl (by decide) (sp_isWay s _)).mpr ?_
    refine wb_X12_happened_5 ?_
    rw [b2i_f q, if_pos rfl]
def a_view (c n : Nat) (K P B : Nat → Nat) (p w j : Int32) : Int32 := if isPl p ∧ isLt (v_ways c K B n) w ∧ isLe n j then nI (v_pv c K P B (ix p) n (ix w) (ix j)) else -nI 2
theorem mo_view (s : mS c n K P B h) (p w j : Int32) : ∃ h', XX true 6 183 0 [.ref 153, .int (p), .int (w), .int (j)] [] (h) (some (.int (a_view c n K P B p w j)), h') ∧ fr [(160, none)] h h' := by
  have h6 := s.n6
  have wl := v_ways_le s.1 (Nat.le_refl n)
  unfold a_view
  by_cases q : isPl p ∧ isLt (v_ways c K B n) w ∧ isLe n j
  · rw [if_pos q]
    obtain ⟨q0, q1, q2⟩ := q
    obtain ⟨a, ha, rfl⟩ := q0.ex
    obtain ⟨k, hk, rfl⟩ := q1.ex (by omega)
    obtain ⟨b, hb, rfl⟩ := q2.ex (by omega)
    obtain ⟨h1, r, f, o⟩ := sp_lays s (Nat.le_refl _) hk
    refine ⟨h1, ?_, f⟩
    refine wb_X12_view_0 ?_
    refine (cl_X12_view_1 rfl (by decide) (sp_isPlayer _ _)).mpr ?_
    refine wb_X12_view_4 ?_
    rw [b2i_t q0, if_neg (by decide)]
    refine (cl_X12_view_9 rfl (by decide) (sp_isWay s _)).mpr ?_
    refine wb_X12_view_12 ?_
    rw [b2i_t q1, if_neg (by decide)]
    refine (cl_X12_view_17 rfl (by decide) (sp_isBehind s _)).mpr ?_
    refine wb_X12_view_20 ?_
    rw [b2i_t q2, if_neg (by decide), s.nn]
    refine (cl_X12_view_32 rfl (by decide) (r)).mpr ?_
    refine wb_X12_view_35 ?_
    refine (cl_X12_view_38 rfl (by decide) (sp_viewOf (s.fr f rfl) hb ha o hb)).mpr ?_
    refine wb_X12_view_41 ?_
    rw [ix_nI (by omega), ix_nI (by omega), ix_nI (by omega)]
  · rw [if_neg q]
    refine ⟨h, ?_, fr.rfl'⟩
    refine wb_X12_view_0 ?_
    refine (cl_X12_view_1 rfl (by decide) (sp_isPlayer _ _)).mpr ?_
    refine wb_X12_view_4 ?_
    by_cases q0 : isPl p
    · rw [b2i_t q0, if_neg (by decide)]
      refine (cl_X12_view_9 rfl (by decide) (sp_isWay s _)).mpr ?_
      refine wb_X12_view_12 ?_
      by_cases q1 : isLt (v_ways c K B n) w
      · rw [b2i_t q1, if_neg (by decide)]
        refine (cl_X12_view_17 rfl (by decide) (sp_isBehind s _)).mpr ?_
        refine wb_X12_view_20 ?_
        rw [b2i_f (fun z => q ⟨q0, q1, z⟩), if_pos rfl]
      · rw [b2i_f q1, if_pos rfl]
    · rw [b2i_f q0, if_pos rfl]
def a_worlds (c n : Nat) (K P B : Nat → Nat) (p j v : Int32) : Int32 := if isPl p ∧ isLe n j then nI (cntN (fun w => decide ((nI (v_vw c K P B (ix p) (ix j) w)).toInt64 = v.toInt64)) (v_ways c K B (ix j))) else -nI 2
theorem mo_worlds (s : mS c n K P B h) (p j v : Int32) : ∃ h', XX true 6 185 0 [.ref 153, .int (p), .int (j), .int (v)] [] (h) (some (.int (a_worlds c n K P B p j v)), h') ∧ fr [(160, none)] h h' := by
  have h6 := s.n6
  unfold a_worlds
  by_cases q : isPl p ∧ isLe n j
  · rw [if_pos q]
    obtain ⟨q0, q1⟩ := q
    obtain ⟨a, ha, rfl⟩ := q0.ex
    obtain ⟨b, hb, rfl⟩ := q1.ex (by omega)
    rw [ix_nI (by omega), ix_nI (by omega)]
    obtain ⟨h1, r, f⟩ := sp_worldsOf s hb ha v.toInt64
    refine ⟨h1, ?_, f⟩
    refine wb_X12_worlds_0 ?_
    refine (cl_X12_worlds_1 rfl (by decide) (sp_isPlayer _ _)).mpr ?_
    refine wb_X12_worlds_4 ?_
    rw [b2i_t q0, if_neg (by decide)]
    refine (cl_X12_worlds_9 rfl (by decide) (sp_isBehind s _)).mpr ?_
    refine wb_X12_worlds_12 ?_
    rw [b2i_t q1, if_neg (by decide)]
    refine (cl_X12_worlds_20 rfl (by decide) (r)).mpr ?_
    refine wb_X12_worlds_23 ?_
    rfl
  · rw [if_neg q]
    refine ⟨h, ?_, fr.rfl'⟩
    refine wb_X12_worlds_0 ?_
    refine (cl_X12_worlds_1 rfl (by decide) (sp_isPlayer _ _)).mpr ?_
    refine wb_X12_worlds_4 ?_
    by_cases q0 : isPl p
    · rw [b2i_t q0, if_neg (by decide)]
      refine (cl_X12_worlds_9 rfl (by decide) (sp_isBehind s _)).mpr ?_
      refine wb_X12_worlds_12 ?_
      rw [b2i_f (fun z => q ⟨q0, z⟩), if_pos rfl]
    · rw [b2i_f q0, if_pos rfl]
/-- which of the ways alike is at a place: the number of ways where none is -/
def v_nth (q : Nat → Bool) (m k : Nat) : Nat := v_at (fun w => q w && decide (cntN q w = k)) m 0
def a_world (c n : Nat) (K P B : Nat → Nat) (p j v k : Int32) : Int32 := if isPl p ∧ isLe n j then (if k < nI 0 then -nI 12 else if v_nth (fun w => decide (nI (v_vw c K P B (ix p) (ix j) w) = v)) (v_ways c K B (ix j)) (ix k) = v_ways c K B (ix j) then -nI 12 else nI (v_nth (fun w => decide (nI (v_vw c K P B (ix p) (ix j) w) = v)) (v_ways c K B (ix j)) (ix k))) else -nI 2
theorem mo_world_lp (s : mS c n K P B h) {p j : Nat} (hp : p < 3) (hj : j ≤ n) (v : Int32) {N : Nat} (hN : N < 2 ^ 31) : ∀ k w, w + k = v_ways c K B j → cntN (fun w => decide (nI (v_vw c K P B p j w) = v)) w ≤ N → ∀ h1, fr [(160, none)] h h1 → ∃ h', XX true 5 187 32 [.ref 153, .int (nI p), .int (nI j), .int (v), ax_junk, .int (nI (N - cntN (fun w => decide (nI (v_vw c K P B p j w) = v)) w)), .int (nI (v_ways c K B j)), .int (nI w)] [] (h1) ((some (.int (if v_at (fun w => decide (nI (v_vw c K P B p j w) = v) && decide (cntN (fun w => decide (nI (v_vw c K P B p j w) = v)) w = N)) k w = v_ways c K B j then -nI 12 else nI (v_at (fun w => decide (nI (v_vw c K P B p j w) = v) && decide (cntN (fun w => decide (nI (v_vw c K P B p j w) = v)) w = N)) k w))), h')) ∧ fr [(160, none)] h h' := by
  have h6 := s.n6
  have wl := v_ways_le s.1 hj
  intro k
  induction k with
  | zero =>
    intro w hw _ h1 f
    obtain rfl : w = v_ways c K B j := hw
    refine ⟨h1, ?_, f⟩
    refine wb_X12_world_32 ?_
    rw [if_neg (nI_nlt (Nat.le_refl _) (by omega))]
    rw [v_at_0, if_pos rfl]
  | succ k ih =>
    intro w hw hc h1 f
    obtain ⟨h2, r, f2, o⟩ := sp_lays (s.fr f rfl) hj (w := w) (by omega)
    have s2 : mS c n K P B h2 := (s.fr f rfl).fr f2 rfl
    have ec : cntN (fun w => decide (nI (v_vw c K P B p j w) = v)) (w + 1) = cntN (fun w => decide (nI (v_vw c K P B p j w) = v)) w + (if decide (nI (v_vw c K P B p j w) = v) = true then 1 else 0) := rfl
    have ih' := ih (w + 1) (by omega)
    rw [ec] at ih'
    have pre : ∀ R, XX true 5 187 57 [.ref 153, .int (nI p), .int (nI j), .int (v), ax_junk, .int (nI (N - cntN (fun w => decide (nI (v_vw c K P B p j w) = v)) w)), .int (nI (v_ways c K B j)), .int (nI w)] [.int (nI (v_vw c K P B p j w))] (h2) (R) → XX true 5 187 32 [.ref 153, .int (nI p), .int (nI j), .int (v), ax_junk, .int (nI (N - cntN (fun w => decide (nI (v_vw c K P B p j w) = v)) w)), .int (nI (v_ways c K B j)), .int (nI w)] [] (h1) (R) := by
      intro R u
      refine wb_X12_world_32 ?_
      rw [if_pos (nI_lt (by omega) (by omega)), if_neg (nI_n0 (by omega))]
      refine (cl_X12_world_48 rfl (by decide) (r)).mpr ?_
      refine wb_X12_world_51 ?_
      refine (cl_X12_world_54 rfl (by decide) (sp_viewOf s2 hj hp o (Nat.le_refl _))).mpr ?_
      exact u
    unfold v_at
    by_cases q : nI (v_vw c K P B p j w) = v
    · rw [if_pos (decide_eq_true q)] at ih'
      by_cases q2 : cntN (fun w => decide (nI (v_vw c K P B p j w) = v)) w = N
      · refine ⟨h2, pre _ ?_, f.trans f2⟩
        rw [if_pos (show (decide (nI (v_vw c K P B p j w) = v) && decide (cntN (fun w => decide (nI (v_vw c K P B p j w) = v)) w = N)) = true by rw [decide_eq_true q, decide_eq_true q2]; rfl), if_neg (show ¬ w = v_ways c K B j by omega)]
        refine wb_X12_world_57 ?_
        rw [if_pos q, if_pos (congrArg nI (by omega))]
      · obtain ⟨h', r', f'⟩ := ih' (by omega) h2 (f.trans f2)
        refine ⟨h', pre _ ?_, f'⟩
        rw [if_neg (show ¬ (decide (nI (v_vw c K P B p j w) = v) && decide (cntN (fun w => decide (nI (v_vw c K P B p j w) = v)) w = N)) = true by rw [decide_eq_false q2, Bool.and_false]; decide)]
        refine wb_X12_world_57 ?_
        rw [if_pos q, if_neg (fun z => by have := (nI_eq (by omega) (by omega)).mp z; omega), nI_dec, show nI 1 = nI (0 + 1) by rfl, nI_subI (by omega)]
        refine wb_X12_world_72 ?_
        rw [nI_s, show N - cntN (fun w => decide (nI (v_vw c K P B p j w) = v)) w - (0 + 1) = N - (cntN (fun w => decide (nI (v_vw c K P B p j w) = v)) w + 1) by omega]
        exact wk_X12_world_32 r'
    · rw [if_neg (by simpa using q)] at ih'
      obtain ⟨h', r', f'⟩ := ih' (by omega) h2 (f.trans f2)
      refine ⟨h', pre _ ?_, f'⟩
      rw [if_neg (show ¬ (decide (nI (v_vw c K P B p j w) = v) && decide (cntN (fun w => decide (nI (v_vw c K P B p j w) = v)) w = N)) = true by rw [decide_eq_false q, Bool.false_and]; decide)]
      refine wb_X12_world_57 ?_
      rw [if_neg q]
      refine wb_X12_world_72 ?_
      rw [nI_s]
      exact wk_X12_world_32 r'
theorem mo_world (s : mS c n K P B h) (p j v k : Int32) : ∃ h', XX true 5 187 0 [.ref 153, .int (p), .int (j), .int (v), .int (k), ax_junk, ax_junk, ax_junk] [] (h) (some (.int (a_world c n K P B p j v k)), h') ∧ fr [(160, none)] h h' := by
  have h6 := s.n6
  unfold a_world
  by_cases q : isPl p ∧ isLe n j
  · rw [if_pos q]
    obtain ⟨q0, q1⟩ := q
    obtain ⟨a, ha, rfl⟩ := q0.ex
    obtain ⟨b, hb, rfl⟩ := q1.ex (by omega)
    rw [ix_nI (by omega), ix_nI (by omega)]
    have wl := v_ways_le s.1 hb
    have wp := v_ways_pos s.1 b hb
    have pre : ∀ R, XX true 5 187 32 [.ref 153, .int (nI a), .int (nI b), .int (v), ax_junk, .int (k), .int (nI (v_ways c K B b)), .int (nI 0)] [] (h) (R) → XX true 5 187 0 [.ref 153, .int (nI a), .int (nI b), .int v, .int k, ax_junk, ax_junk, ax_junk] [] h R := by
      intro R u
      refine wb_X12_world_0 ?_
      refine (cl_X12_world_1 rfl (by decide) (sp_isPlayer _ _)).mpr ?_
      refine wb_X12_world_4 ?_
      rw [b2i_t q0, if_neg (by decide)]
      refine (cl_X12_world_9 rfl (by decide) (sp_isBehind s _)).mpr ?_
      refine wb_X12_world_12 ?_
      rw [b2i_t q1, if_neg (by decide)]
      refine (cl_X12_world_24 rfl (by decide) (sp_waysBehind s hb)).mpr ?_
      refine wb_X12_world_27 ?_
      exact wk_X12_world_32 u
    by_cases k0 : k < nI 0
    · rw [if_pos k0]
      refine ⟨h, pre _ ?_, fr.rfl'⟩
      refine wb_X12_world_32 ?_
      rw [if_pos (nI_lt (by omega) (by omega)), if_pos k0]
    · rw [if_neg k0]
      obtain ⟨N, hN, rfl⟩ := nI_of k0
      rw [ix_nI hN]
      obtain ⟨h', r, f⟩ := mo_world_lp s ha hb v hN _ 0 (Nat.zero_add _) (Nat.zero_le _) h fr.rfl'
      exact ⟨h', pre _ r, f⟩
  · rw [if_neg q]
    refine ⟨h, ?_, fr.rfl'⟩
    refine wb_X12_world_0 ?_
    refine (cl_X12_world_1 rfl (by decide) (sp_isPlayer _ _)).mpr ?_
    refine wb_X12_world_4 ?_
    by_cases q0 : isPl p
    · rw [b2i_t q0, if_neg (by decide)]
      refine (cl_X12_world_9 rfl (by decide) (sp_isBehind s _)).mpr ?_
      refine wb_X12_world_12 ?_
      rw [b2i_f (fun z => q ⟨q0, z⟩), if_pos rfl]
    · rw [b2i_f q0, if_pos rfl]
/-- a call refused with a long -/
abbrev lNO (k : Nat) : Int64 := -lN 4611686018427387904 + (-nI k).toInt64
theorem sp_refused (x : Int32) (h : AH) : XX true 1 180 0 [.int (x)] [] (h) (some (.long (-lN 4611686018427387904 + x.toInt64)), h) := by
  refine wb_X12_refused_0 ?_
  rfl
def a_chance (c n : Nat) (K B : Nat → Nat) (w q : Int32) : Int64 := if isLt (v_ways c K B n) w ∧ isPt q then (if q = nI 0 then lN 1 else lN (v_chn c K B n)) else lNO 2
theorem mo_chance (s : mS c n K P B h) (w q : Int32) : XX true 6 178 0 [.ref 153, .int (w), .int (q)] [] (h) (some (.long (a_chance c n K B w q)), h) := by
  have h6 := s.n6
  unfold a_chance
  have no : ¬ (isLt (v_ways c K B n) w ∧ isPt q) → ∀ R, R = (some (Value.long (if isLt (v_ways c K B n) w ∧ isPt q then (if q = nI 0 then lN 1 else lN (v_chn c K B n)) else lNO 2)), h) → XX true 6 178 15 [ax_junk, ax_junk, ax_junk] [] (h) (R) := by
    intro z R e
    rw [e, if_neg z]
    refine wb_X12_chance_15 ?_
    refine (cl_X12_chance_17 rfl (by decide) (sp_refused _ _)).mpr ?_
    refine wb_X12_chance_20 ?_
    refine wb_X12_chance_35 ?_
    rfl
  refine wb_X12_chance_0 ?_
  refine (cl_X12_chance_2 rfl (by decide) (sp_isWay s w)).mpr ?_
  refine wb_X12_chance_5 ?_
  by_cases q1 : isLt (v_ways c K B n) w
  · rw [b2i_t q1, if_neg (by decide)]
    refine (cl_X12_chance_9 rfl (by decide) (sp_isPart _ _)).mpr ?_
    refine wb_X12_chance_12 ?_
    by_cases q2 : isPt q
    · rw [b2i_t q2, if_neg (by decide)]
      by_cases q3 : q = nI 0
      · rw [if_pos q3, if_pos ⟨q1, q2⟩, if_pos q3]
        refine wk_X12_chance_35 ?_
        refine wb_X12_chance_35 ?_
        rfl
      · rw [if_neg q3, if_pos ⟨q1, q2⟩, if_neg q3]
        refine (cl_X12_chance_32 rfl (by decide) (sp_chanceBelow s)).mpr ?_
        refine wb_X12_chance_35 ?_
        rfl
    · rw [b2i_f q2, if_pos rfl]
      exact wk_X12_chance_15 (no (fun z => q2 z.2) _ rfl)
  · rw [b2i_f q1, if_pos rfl]
    exact wk_X12_chance_15 (no (fun z => q1 z.1) _ rfl)
/-- a part of a fraction in lowest terms -/
abbrev v_all (c n : Nat) (K P B : Nat → Nat) (ch : Nat → Nat → Nat → Nat) (p j : Nat) (v : Int32) (w : Nat) : Bool := decide (nI (v_vw c K P B p j w) = v) && v_pl K P ch 3 (v_what c K B j w) j
abbrev v_tho (c n : Nat) (K P B : Nat → Nat) (ch : Nat → Nat → Nat → Nat) (p j : Nat) (v : Int32) (i : Nat) (e : Int32) (w : Nat) : Bool := v_all c n K P B ch p j v w && decide (nI (v_what c K B j w i) = e)
def v_oddsA (all tho : Nat) (part : Int32) : Int64 := if all = 0 then lNO 1 else if part = nI 0 then lN (tho / Nat.gcd tho all) else lN (all / Nat.gcd tho all)
def a_odds (c n : Nat) (K P B : Nat → Nat) (ch : Nat → Nat → Nat → Nat) (p j v i e part : Int32) : Int64 := if isPl p ∧ isLe n j ∧ isLt (ix j) i ∧ isPt part then v_oddsA (cntN (v_all c n K P B ch (ix p) (ix j) v) (v_ways c K B (ix j))) (cntN (v_tho c n K P B ch (ix p) (ix j) v (ix i) e) (v_ways c K B (ix j))) part else lNO 2
theorem cntN_imp {q r : Nat → Bool} (h : ∀ w, q w = true → r w = true) : ∀ m, cntN q m ≤ cntN r m
  | 0 => Nat.le_refl _
  | m + 1 => by
    have ih := cntN_imp h m
    show cntN q m + (if q m = true then 1 else 0) ≤ cntN r m + (if r m = true then 1 else 0)
    by_cases z : q m = true
    · rw [if_pos z, if_pos (h m z)]
      omega
    · rw [if_neg z]
      omega
theorem mo_odds_lp (s : mS c n K P B h) (t : mP np T C h) {p j i : Nat} (hp : p < 3) (hj : j ≤ n) (hi : i < j) (v e part : Int32) : ∀ k w, w + k = v_ways c K B j → ∀ h1, fr [(160, none)] h h1 → ∃ h', XX true 5 188 59 [.ref 153, .int (nI p), .int (nI j), .int (v), .int (nI i), .int (e), .int (part), .long (lN (cntN (v_all c n K P B (v_chs np T C B) p j v) w)), ax_junk, .long (lN (cntN (v_tho c n K P B (v_chs np T C B) p j v i e) w)), ax_junk, .int (nI (v_ways c K B j)), .int (nI w)] [] (h1) ((some (.long (v_oddsA (cntN (v_all c n K P B (v_chs np T C B) p j v) (v_ways c K B j)) (cntN (v_tho c n K P B (v_chs np T C B) p j v i e) (v_ways c K B j)) part)), h')) ∧ fr [(160, none)] h h' := by
  have h6 := s.n6
  have wl := v_ways_le s.1 hj
  intro k
  induction k with
  | zero =>
    intro w hw h1 f
    obtain rfl : w = v_ways c K B j := hw
    have l1 := cntN_le (v_all c n K P B (v_chs np T C B) p j v) (v_ways c K B j)
    have l2 := cntN_le (v_tho c n K P B (v_chs np T C B) p j v i e) (v_ways c K B j)
    refine ⟨h1, ?_, f⟩
    unfold v_oddsA
    generalize cntN (v_all c n K P B (v_chs np T C B) p j v) (v_ways c K B j) = A at *
    generalize cntN (v_tho c n K P B (v_chs np T C B) p j v i e) (v_ways c K B j) = D at *
    refine wb_X12_odds_59 ?_
    rw [if_neg (nI_nlt (Nat.le_refl _) (by omega))]
    by_cases q : A = 0
    · rw [if_pos ((lg_eq0 _ _).mpr (by rw [q])), if_pos q]
      refine (cl_X12_odds_134 rfl (by decide) (sp_refused _ _)).mpr ?_
      refine wb_X12_odds_137 ?_
      rfl
    · rw [if_neg (fun z => q ((pk_lEQ (by omega) (by omega)).mp ((lg_eq0 _ _).mp z))), if_neg q]
      have hd : (lN D).toInt.natAbs = D := by rw [pk_lT (by omega)]; omega
      have gp : 0 < Nat.gcd D A := Nat.gcd_pos_of_pos_right D (by omega)
      have gl : Nat.gcd D A ≤ A := Nat.gcd_le_right D (by omega)
      have dv : ∀ x, x < 2 ^ 31 → XX true 5 188 150 [ax_junk, ax_junk, ax_junk, ax_junk, ax_junk, ax_junk, ax_junk, .long (lN A), ax_junk, .long (lN D), ax_junk, ax_junk, ax_junk] [.long (lN x)] (h1) ((some (.long (lN (x / Nat.gcd D A))), h1)) := by
        intro x hx
        have sd := sp_divisor (lN D) (b := A) (by rw [pk_lT (by omega)]; omega) (by omega) h1
        rw [hd] at sd
        refine wb_X12_odds_150 ?_
        refine (cl_X12_odds_154 rfl (by decide) (sd)).mpr ?_
        refine wb_X12_odds_157 ?_
        rw [pk_lDiv (by omega) gp (by omega)]
        refine ⟨?_, rfl⟩
        simp only [Bool.not_eq_true', decide_eq_false_iff_not]
        intro z
        have := (pk_lEQ (b := 0) (by omega) (by omega)).mp z
        omega
      by_cases q2 : part = nI 0
      · rw [if_pos q2, if_pos q2]
        exact wk_X12_odds_150 (dv D (by omega))
      · rw [if_neg q2, if_neg q2]
        exact wk_X12_odds_150 (dv A (by omega))
  | succ k ih =>
    intro w hw h1 f
    obtain ⟨h2, r, f2, o⟩ := sp_lays (s.fr f rfl) hj (w := w) (by omega)
    have s2 : mS c n K P B h2 := (s.fr f rfl).fr f2 rfl
    have he : ∀ a, a < j → v_what c K B j w a < 5 := fun a ha => v_what_lt s.1 hj w ha
    obtain ⟨h', r', f'⟩ := ih (w + 1) (by omega) h2 (f.trans f2)
    have e1 : cntN (v_all c n K P B (v_chs np T C B) p j v) (w + 1) = cntN (v_all c n K P B (v_chs np T C B) p j v) w + (if v_all c n K P B (v_chs np T C B) p j v w = true then 1 else 0) := rfl
    have e2 : cntN (v_tho c n K P B (v_chs np T C B) p j v i e) (w + 1) = cntN (v_tho c n K P B (v_chs np T C B) p j v i e) w + (if v_tho c n K P B (v_chs np T C B) p j v i e w = true then 1 else 0) := rfl
    rw [e1, e2] at r'
    refine ⟨h', ?_, f'⟩
    have k120 : ∀ x y, (if v_all c n K P B (v_chs np T C B) p j v w = true then 1 else 0) = x → (if v_tho c n K P B (v_chs np T C B) p j v i e w = true then 1 else 0) = y → XX true 5 188 120 [.ref 153, .int (nI p), .int (nI j), .int (v), .int (nI i), .int (e), .int (part), .long (lN (cntN (v_all c n K P B (v_chs np T C B) p j v) w + x)), ax_junk, .long (lN (cntN (v_tho c n K P B (v_chs np T C B) p j v i e) w + y)), ax_junk, .int (nI (v_ways c K B j)), .int (nI w)] [] (h2) ((some (.long (v_oddsA (cntN (v_all c n K P B (v_chs np T C B) p j v) (v_ways c K B j)) (cntN (v_tho c n K P B (v_chs np T C B) p j v i e) (v_ways c K B j)) part)), h')) := by
      intro x y hx hy
      rw [hx, hy] at r'
      refine wb_X12_odds_120 ?_
      rw [nI_s]
      exact wk_X12_odds_59 r'
    refine wb_X12_odds_59 ?_
    rw [if_pos (nI_lt (by omega) (by omega))]
    refine (cl_X12_odds_70 rfl (by decide) (r)).mpr ?_
    refine wb_X12_odds_73 ?_
    refine (cl_X12_odds_76 rfl (by decide) (sp_viewOf s2 hj hp o (Nat.le_refl _))).mpr ?_
    refine wb_X12_odds_79 ?_
    by_cases q : nI (v_vw c K P B p j w) = v
    · rw [if_pos q]
      refine (cl_X12_odds_86 rfl (by decide) (sp_isPlayed s2 (t.fr (f.trans f2) rfl) hj o (Nat.le_refl _) he (but := 3) (b := -nI 1) (fun x hx => ⟨fun z => absurd z (nI_ne1 (by omega)), fun z => absurd z (by omega)⟩))).mpr ?_
      refine wb_X12_odds_89 ?_
      by_cases q2 : v_pl K P (v_chs np T C B) 3 (v_what c K B j w) j = true
      · have ea : v_all c n K P B (v_chs np T C B) p j v w = true := by unfold v_all; rw [decide_eq_true q, q2]; rfl
        rw [b2i_t q2, if_neg (by decide), ix_nI (by omega), o i hi]
        refine ⟨in_nI (by omega) (by decide), ?_⟩
        by_cases q3 : nI (v_what c K B j w i) = e
        · rw [if_pos q3]
          refine wk_X12_odds_117 ?_
          refine wb_X12_odds_117 ?_
          rw [lN_add, lN_add]
          refine wk_X12_odds_120 (k120 1 1 (if_pos ea) (if_pos ?_))
          unfold v_tho
          rw [ea, decide_eq_true q3]
          rfl
        · rw [if_neg q3]
          refine wk_X12_odds_117 ?_
          refine wb_X12_odds_117 ?_
          rw [lN_add, lN_add]
          refine wk_X12_odds_120 (k120 1 0 (if_pos ea) (if_neg ?_))
          unfold v_tho
          rw [ea, decide_eq_false q3]
          decide
      · have ea : v_all c n K P B (v_chs np T C B) p j v w = false := by unfold v_all; rw [Bool.eq_false_iff.mpr q2, Bool.and_false]
        rw [b2i_f q2, if_pos rfl]
        refine wk_X12_odds_120 (k120 0 0 (if_neg (by rw [ea]; decide)) (if_neg ?_))
        unfold v_tho
        rw [ea, Bool.false_and]
        decide
    · have ea : v_all c n K P B (v_chs np T C B) p j v w = false := by unfold v_all; rw [decide_eq_false q, Bool.false_and]
      rw [if_neg q]
      refine wk_X12_odds_120 (k120 0 0 (if_neg (by rw [ea]; decide)) (if_neg ?_))
      unfold v_tho
      rw [ea, Bool.false_and]
      decide
theorem mo_odds (s : mS c n K P B h) (t : mP np T C h) (p j v i e part : Int32) : ∃ h', XX true 5 188 0 [.ref 153, .int (p), .int (j), .int (v), .int (i), .int (e), .int (part), ax_junk, ax_junk, ax_junk, ax_junk, ax_junk, ax_junk] [] (h) (some (.long (a_odds c n K P B (v_chs np T C B) p j v i e part)), h') ∧ fr [(160, none)] h h' := by
  have h6 := s.n6
  unfold a_odds
  have no : ∀ R, R = (some (Value.long (lNO 2)), h) → XX true 5 188 37 [ax_junk, ax_junk, ax_junk, ax_junk, ax_junk, ax_junk, ax_junk, ax_junk, ax_junk, ax_junk, ax_junk, ax_junk, ax_junk] [] (h) (R) := by
    intro R z
    refine wb_X12_odds_37 ?_
    refine (cl_X12_odds_39 rfl (by decide) (sp_refused _ _)).mpr ?_
    refine wb_X12_odds_42 ?_
    exact z
  by_cases q : isPl p ∧ isLe n j ∧ isLt (ix j) i ∧ isPt part
  · rw [if_pos q]
    obtain ⟨q0, q1, q2, q3⟩ := q
    obtain ⟨a, ha, rfl⟩ := q0.ex
    obtain ⟨b, hb, rfl⟩ := q1.ex (by omega)
    rw [ix_nI (by omega)] at q2
    obtain ⟨d, hd, rfl⟩ := q2.ex (by omega)
    rw [ix_nI (by omega), ix_nI (by omega), ix_nI (by omega)]
    obtain ⟨h', r, f⟩ := mo_odds_lp s t ha hb hd v e part _ 0 (Nat.zero_add _) h fr.rfl'
    refine ⟨h', ?_, f⟩
    refine wb_X12_odds_0 ?_
    refine (cl_X12_odds_1 rfl (by decide) (sp_isPlayer _ _)).mpr ?_
    refine wb_X12_odds_4 ?_
    rw [b2i_t q0, if_neg (by decide)]
    refine (cl_X12_odds_9 rfl (by decide) (sp_isBehind s _)).mpr ?_
    refine wb_X12_odds_12 ?_
    rw [b2i_t q1, if_neg (by decide)]
    refine (cl_X12_odds_23 rfl (by decide) (sp_in _ _ _ _)).mpr ?_
    refine wb_X12_odds_26 ?_
    rw [b2i_cong (in_pred (by omega) (nI d)), b2i_t q2, if_neg (by decide)]
    refine (cl_X12_odds_31 rfl (by decide) (sp_isPart _ _)).mpr ?_
    refine wb_X12_odds_34 ?_
    rw [b2i_t q3, if_neg (by decide)]
    refine (cl_X12_odds_51 rfl (by decide) (sp_waysBehind s hb)).mpr ?_
    refine wb_X12_odds_54 ?_
    exact wk_X12_odds_59 r
  · rw [if_neg q]
    refine ⟨h, ?_, fr.rfl'⟩
    refine wb_X12_odds_0 ?_
    refine (cl_X12_odds_1 rfl (by decide) (sp_isPlayer _ _)).mpr ?_
    refine wb_X12_odds_4 ?_
    by_cases q0 : isPl p
    · rw [b2i_t q0, if_neg (by decide)]
      refine (cl_X12_odds_9 rfl (by decide) (sp_isBehind s _)).mpr ?_
      refine wb_X12_odds_12 ?_
      by_cases q1 : isLe n j
      · rw [b2i_t q1, if_neg (by decide)]
        obtain ⟨b, hb, rfl⟩ := q1.ex (by omega)
        rw [ix_nI (by omega)] at q
        refine (cl_X12_odds_23 rfl (by decide) (sp_in _ _ _ _)).mpr ?_
        refine wb_X12_odds_26 ?_
        rw [b2i_cong (in_pred (by omega) i)]
        by_cases q2 : isLt b i
        · rw [b2i_t q2, if_neg (by decide)]
          refine (cl_X12_odds_31 rfl (by decide) (sp_isPart _ _)).mpr ?_
          refine wb_X12_odds_34 ?_
          rw [b2i_f (fun z => q ⟨q0, q1, q2, z⟩), if_pos rfl]
          exact wk_X12_odds_37 (no _ rfl)
        · rw [b2i_f q2, if_pos rfl]
          exact wk_X12_odds_37 (no _ rfl)
      · rw [b2i_f q1, if_pos rfl]
        exact wk_X12_odds_37 (no _ rfl)
    · rw [b2i_f q0, if_pos rfl]
      exact wk_X12_odds_37 (no _ rfl)
end S34
