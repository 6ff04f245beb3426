/-! THE CLASS'S CALLS: stages, ways, views -/
section S59
variable {c n : Nat} {K P B S : Nat → Nat} {h h' : AH}
theorem cp_isPlayer (p : Int32) (h : AH) : XX true 1 17 0 [.int (p)] [] (h) (some (.int (b2i (isPl p))), h) := by
  have e : p < nI 3 ↔ p ≤ nI 2 := by
    rw [Int32.lt_iff_toInt_lt, Int32.le_iff_toInt_le, show (nI 3).toInt = 3 by decide, show (nI 2).toInt = 2 by decide]
    omega
  refine wb_X11_isPlayer_0 ?_
  by_cases q : p < nI 0
  · rw [if_pos q, b2i_f (fun z => absurd z.1 (Int32.not_le.mpr q))]
  · rw [if_neg q]
    by_cases r : p < nI 3
    · rw [if_pos r, b2i_t ⟨Int32.not_lt.mp q, e.mp r⟩]
    · rw [if_neg r, b2i_f (fun z => r (e.mpr z.2))]
theorem isPt_or (p : Int32) : isPt p ↔ p = nI 0 ∨ p = nI 1 := by
  constructor
  · intro z
    obtain ⟨k, hk, rfl⟩ := nI_of3 (by decide) z.1 z.2
    match k, hk with
    | 0, _ => exact Or.inl rfl
    | 1, _ => exact Or.inr rfl
  · rintro (rfl | rfl)
    · exact ⟨by decide, by decide⟩
    · exact ⟨by decide, by decide⟩
theorem cp_isPart (p : Int32) (h : AH) : XX true 1 25 0 [.int (p)] [] (h) (some (.int (b2i (isPt p))), h) := by
  rw [b2i_cong (isPt_or p)]
  refine wb_X11_isPart_0 ?_
  by_cases q : p = nI 0
  · rw [if_pos q, b2i_t (Or.inl q)]
    refine wb_X11_isPart_9 ?_
    rfl
  · rw [if_neg q]
    by_cases r : p = nI 1
    · rw [if_pos r, b2i_t (Or.inr r)]
      refine wb_X11_isPart_9 ?_
      rfl
    · rw [if_neg r, b2i_f (fun z => z.elim q r)]
theorem cp_isPoint (s : tS 0 c n K P B S h) (j : Int32) : XX true 1 10 0 [.ref 64, .int (j)] [] (h) (some (.int (b2i (isLe n j))), h) := by
  refine wb_X11_isPoint_0 ?_
  rw [s.nn]
  by_cases q : j < nI 0
  · rw [if_pos q, b2i_f (fun z => absurd z.1 (Int32.not_le.mpr q))]
  · rw [if_neg q]
    by_cases r : j ≤ nI n
    · rw [if_pos r, b2i_t ⟨Int32.not_lt.mp q, r⟩]
    · rw [if_neg r, b2i_f (fun z => r z.2)]
theorem cp_isAhead (s : tS 0 c n K P B S h) (i j : Int32) : XX true 2 9 0 [.ref 64, .int (i), .int (j)] [] (h) (some (.int (b2i (isLe n j ∧ isLt (ix j) i))), h) := by
  have h6 := s.n6
  refine wb_X11_isAhead_0 ?_
  refine cl_X11_isAhead_2 rfl (by decide) (cp_isPoint s j) ?_
  refine wb_X11_isAhead_5 ?_
  by_cases q : isLe n j
  · rw [b2i_t q, if_neg (by decide)]
    obtain ⟨j', hj, rfl⟩ := q.ex (by omega)
    rw [ix_nI (by omega)]
    by_cases r : i < nI 0
    · rw [if_pos r, b2i_f (fun z => absurd z.2.1 (Int32.not_le.mpr r))]
    · rw [if_neg r]
      by_cases t : i < nI j'
      · rw [if_pos t, b2i_t ⟨q, Int32.not_lt.mp r, t⟩]
      · rw [if_neg t, b2i_f (fun z => t z.2.2)]
  · rw [b2i_f q, if_pos rfl, b2i_f (fun z => q z.1)]
theorem cp_isAheadN (s : tS 0 c n K P B S h) (i : Int32) : XX true 2 9 0 [.ref 64, .int (i), .int (nI n)] [] (h) (some (.int (b2i (isLt n i))), h) := by
  have h6 := s.n6
  have g := cp_isAhead s i (nI n)
  rw [ix_nI (by omega), b2i_cong (c' := isLt n i) ⟨fun z => z.2, fun z => ⟨(isLe_nI (by omega) (by omega)).mpr (Nat.le_refl _), z⟩⟩] at g
  exact g
theorem cp_isWay (s : tS 0 c n K P B S h) (w : Int32) : XX true 1 13 0 [.ref 64, .int (w)] [] (h) (some (.int (b2i (isLt (v_ways c K B n) w))), h) := by
  have h6 := s.n6
  refine wb_X11_isWay_0 ?_
  by_cases q : w < nI 0
  · rw [if_pos q, b2i_f (fun z => absurd z.1 (Int32.not_le.mpr q))]
  · rw [if_neg q, s.nn, ix_nI (by omega), s.beh n (Nat.le_refl _)]
    refine ⟨in_nI (by omega) (by decide), ?_⟩
    by_cases r : w < nI (v_ways c K B n)
    · rw [if_pos r, b2i_t ⟨Int32.not_lt.mp q, r⟩]
    · rw [if_neg r, b2i_f (fun z => r z.2)]
theorem co_seen (s : tS 0 c n K P B S h) (i j : Int32) : XX true 3 8 0 [.ref 64, .int (i), .int (j)] [] (h) (some (.int (a_seen n K P i j)), h) := by
  have h6 := s.n6
  unfold a_seen
  refine wb_X11_seen_0 ?_
  refine cl_X11_seen_3 rfl (by decide) (cp_isAhead s i j) ?_
  refine wb_X11_seen_6 ?_
  by_cases q : isLe n j ∧ isLt (ix j) i
  · rw [b2i_t q, if_neg (by decide), if_pos q]
    obtain ⟨q1, q2⟩ := q
    obtain ⟨j', hj, rfl⟩ := q1.ex (by omega)
    have ej : ix (nI j') = j' := ix_nI (by omega)
    rw [ej] at q2 ⊢
    obtain ⟨i', hi, rfl⟩ := q2.ex (by omega)
    have ro := row71 j' (by omega) h
    rw [ix_nI (by omega)]
    refine ⟨in_nI (by omega) (by decide), _, ro.1, 6, ro.2.1, in_nI (by omega) (by decide), ?_⟩
    rw [ro.2.2.1, s.see j' hj i' hi]
  · rw [b2i_f q, if_pos rfl, if_neg q]
theorem co_ways (s : tS 0 c n K P B S h) (j : Int32) : XX true 2 11 0 [.ref 64, .int (j)] [] (h) (some (.int (a_ways c n K B j)), h) := by
  have h6 := s.n6
  unfold a_ways
  refine wb_X11_ways_0 ?_
  refine cl_X11_ways_2 rfl (by decide) (cp_isPoint s j) ?_
  refine wb_X11_ways_5 ?_
  by_cases q : isLe n j
  · rw [b2i_t q, if_neg (by decide), if_pos q]
    obtain ⟨j', hj, rfl⟩ := q.ex (by omega)
    rw [ix_nI (by omega), s.beh j' hj]
    exact ⟨in_nI (by omega) (by decide), rfl⟩
  · rw [b2i_f q, if_pos rfl, if_neg q]
theorem co_happened (s : tS 0 c n K P B S h) (w i : Int32) : ∃ h', XX true 3 12 0 [.ref 64, .int (w), .int (i)] [] (h) (some (.int (a_happened c n K B w i)), h') ∧ fr [(86, none)] h h' := by
  have h6 := s.n6
  have wl := v_ways_le s.ok (Nat.le_refl n)
  unfold a_happened
  by_cases q : isLt (v_ways c K B n) w ∧ isLt n i
  · obtain ⟨q1, q2⟩ := id q
    obtain ⟨w', hw, rfl⟩ := q1.ex (by omega)
    obtain ⟨i', hi, rfl⟩ := q2.ex (by omega)
    rw [if_pos q, ix_nI (by omega), ix_nI (by omega)]
    obtain ⟨h1, r, f, x⟩ := sp_t_go s (Nat.le_refl _) hw
    refine ⟨h1, ?_, f⟩
    refine wb_X11_happened_0 ?_
    refine cl_X11_happened_2 rfl (by decide) (cp_isWay s _) ?_
    refine wb_X11_happened_5 ?_
    rw [b2i_t q1, if_neg (by decide), s.nn]
    refine cl_X11_happened_20 rfl (by decide) (cp_isAheadN s _) ?_
    refine wb_X11_happened_23 ?_
    rw [b2i_t q2, if_neg (by decide), s.nn]
    refine cl_X11_happened_47 rfl (by decide) (r) ?_
    refine wb_X11_happened_50 ?_
    rw [ix_nI (by omega), x i' hi]
    exact ⟨in_nI (by omega) (by decide), rfl⟩
  · rw [if_neg q]
    refine ⟨h, ?_, fr.rfl'⟩
    refine wb_X11_happened_0 ?_
    refine cl_X11_happened_2 rfl (by decide) (cp_isWay s _) ?_
    refine wb_X11_happened_5 ?_
    by_cases q1 : isLt (v_ways c K B n) w
    · rw [b2i_t q1, if_neg (by decide), s.nn]
      refine cl_X11_happened_20 rfl (by decide) (cp_isAheadN s _) ?_
      refine wb_X11_happened_23 ?_
      rw [b2i_f (fun z => q ⟨q1, z⟩), if_pos rfl]
    · rw [b2i_f q1, if_pos rfl]
theorem no_2 : -lN 4611686018427387906 = lNO 2 := by decide
theorem co_view (s : tS 0 c n K P B S h) (p w j : Int32) : ∃ h', XX true 2 16 0 [.ref 64, .int (p), .int (w), .int (j)] [] (h) (some (.int (a_view c n K P B p w j)), h') ∧ fr [(86, none)] h h' := by
  have h6 := s.n6
  have wl := v_ways_le s.ok (Nat.le_refl n)
  unfold a_view
  by_cases q : isPl p ∧ isLt (v_ways c K B n) w ∧ isLe n j
  · obtain ⟨q0, q1, q2⟩ := id q
    obtain ⟨p', hp, rfl⟩ := q0.ex
    obtain ⟨w', hw, rfl⟩ := q1.ex (by omega)
    obtain ⟨j', hj, rfl⟩ := q2.ex (by omega)
    rw [if_pos q, ix_nI (by omega), ix_nI (by omega), ix_nI (by omega)]
    obtain ⟨h1, r, f, x⟩ := sp_t_go s (Nat.le_refl _) hw
    refine ⟨h1, ?_, f⟩
    refine wb_X11_view_0 ?_
    refine cl_X11_view_1 rfl (by decide) (cp_isPlayer _ _) ?_
    refine wb_X11_view_4 ?_
    rw [b2i_t q0, if_neg (by decide)]
    refine cl_X11_view_9 rfl (by decide) (cp_isWay s _) ?_
    refine wb_X11_view_12 ?_
    rw [b2i_t q1, if_neg (by decide)]
    refine cl_X11_view_17 rfl (by decide) (cp_isPoint s _) ?_
    refine wb_X11_view_20 ?_
    rw [b2i_t q2, if_neg (by decide), s.nn]
    refine cl_X11_view_44 rfl (by decide) (r) ?_
    refine wb_X11_view_47 ?_
    refine cl_X11_view_56 rfl (by decide) (sp_sight (s.fr f rfl rfl) hj hp x hj) ?_
    refine wb_X11_view_59 ?_
    rfl
  · rw [if_neg q]
    refine ⟨h, ?_, fr.rfl'⟩
    refine wb_X11_view_0 ?_
    refine cl_X11_view_1 rfl (by decide) (cp_isPlayer _ _) ?_
    refine wb_X11_view_4 ?_
    by_cases q0 : isPl p
    · rw [b2i_t q0, if_neg (by decide)]
      refine cl_X11_view_9 rfl (by decide) (cp_isWay s _) ?_
      refine wb_X11_view_12 ?_
      by_cases q1 : isLt (v_ways c K B n) w
      · rw [b2i_t q1, if_neg (by decide)]
        refine cl_X11_view_17 rfl (by decide) (cp_isPoint s _) ?_
        refine wb_X11_view_20 ?_
        rw [b2i_f (fun z => q ⟨q0, q1, z⟩), if_pos rfl]
      · rw [b2i_f q1, if_pos rfl]
    · rw [b2i_f q0, if_pos rfl]
theorem co_worlds (s : tS 0 c n K P B S h) (p j v : Int32) : ∃ h', XX true 4 19 0 [.ref 64, .int (p), .int (j), .int (v)] [] (h) (some (.int (a_worlds c n K P B p j v)), h') ∧ fr [(86, none)] h h' := by
  have h6 := s.n6
  unfold a_worlds
  by_cases q : isPl p ∧ isLe n j
  · obtain ⟨q0, q2⟩ := id q
    obtain ⟨p', hp, rfl⟩ := q0.ex
    obtain ⟨j', hj, rfl⟩ := q2.ex (by omega)
    rw [if_pos q, ix_nI (by omega), ix_nI (by omega)]
    obtain ⟨h1, r, f⟩ := sp_alike s hp hj v
    refine ⟨h1, ?_, f⟩
    refine wb_X11_worlds_0 ?_
    refine cl_X11_worlds_1 rfl (by decide) (cp_isPlayer _ _) ?_
    refine wb_X11_worlds_4 ?_
    rw [b2i_t q0, if_neg (by decide)]
    refine cl_X11_worlds_9 rfl (by decide) (cp_isPoint s _) ?_
    refine wb_X11_worlds_12 ?_
    rw [b2i_t q2, if_neg (by decide)]
    refine cl_X11_worlds_28 rfl (by decide) (r) ?_
    refine wb_X11_worlds_31 ?_
    rw [cntN_cong (r := v_al c K P B p' j' v) (v_ways c K B j') (fun w _ => decide_eq_decide.mpr t64_inj)]
  · rw [if_neg q]
    refine ⟨h, ?_, fr.rfl'⟩
    refine wb_X11_worlds_0 ?_
    refine cl_X11_worlds_1 rfl (by decide) (cp_isPlayer _ _) ?_
    refine wb_X11_worlds_4 ?_
    by_cases q0 : isPl p
    · rw [b2i_t q0, if_neg (by decide)]
      refine cl_X11_worlds_9 rfl (by decide) (cp_isPoint s _) ?_
      refine wb_X11_worlds_12 ?_
      rw [b2i_f (fun z => q ⟨q0, z⟩), if_pos rfl]
    · rw [b2i_f q0, if_pos rfl]
theorem v_at_cong {q r : Nat → Bool} : ∀ m k, (∀ w, w < k + m → q w = r w) → v_at q m k = v_at r m k
  | 0, _, _ => rfl
  | m + 1, k, h => by
    show (if q k = true then k else v_at q m (k + 1)) = if r k = true then k else v_at r m (k + 1)
    rw [h k (by omega), v_at_cong m (k + 1) (fun w hw => h w (by omega))]
theorem v_at_none {q : Nat → Bool} : ∀ m k, (∀ w, w < k + m → q w = false) → v_at q m k = k + m
  | 0, _, _ => rfl
  | m + 1, k, h => by
    show (if q k = true then k else v_at q m (k + 1)) = _
    rw [h k (by omega), if_neg (by decide), v_at_none m (k + 1) (fun w hw => h w (by omega))]
    omega
theorem co_world (s : tS 0 c n K P B S h) (p j v k : Int32) : ∃ h', XX true 4 22 0 [.ref 64, .int (p), .int (j), .int (v), .int (k), ax_junk] [] (h) (some (.int (a_world c n K P B p j v k)), h') ∧ fr [(86, none)] h h' := by
  have h6 := s.n6
  unfold a_world
  by_cases q : isPl p ∧ isLe n j
  · obtain ⟨q0, q2⟩ := id q
    obtain ⟨p', hp, rfl⟩ := q0.ex
    obtain ⟨j', hj, rfl⟩ := q2.ex (by omega)
    have wl := v_ways_le s.ok hj
    rw [if_pos q, ix_nI (by omega), ix_nI (by omega)]
    obtain ⟨h1, r, f⟩ := sp_alikeAt s hp hj v k
    refine ⟨h1, ?_, f⟩
    have al := v_at_le (fun w => v_al c K P B p' j' v w && decide (nI (cntN (v_al c K P B p' j' v) w) = k)) (v_ways c K B j') 0
    have e : (if k < nI 0 then -nI 12 else if v_nth (fun w => decide (nI (v_vw c K P B p' j' w) = v)) (v_ways c K B j') (ix k) = v_ways c K B j' then -nI 12 else nI (v_nth (fun w => decide (nI (v_vw c K P B p' j' w) = v)) (v_ways c K B j') (ix k))) = if v_at (fun w => v_al c K P B p' j' v w && decide (nI (cntN (v_al c K P B p' j' v) w) = k)) (v_ways c K B j') 0 = v_ways c K B j' then -nI 12 else nI (v_at (fun w => v_al c K P B p' j' v w && decide (nI (cntN (v_al c K P B p' j' v) w) = k)) (v_ways c K B j') 0) := by
      by_cases z : k < nI 0
      · rw [if_pos z, v_at_none _ _ (fun w hw => ?_), Nat.zero_add, if_pos rfl]
        have cl := cntN_le (v_al c K P B p' j' v) w
        have : ¬ nI (cntN (v_al c K P B p' j' v) w) = k := by
          rintro rfl
          exact nI_n0 (by omega) z
        simp [this]
      · rw [if_neg z]
        have e1 : v_nth (fun w => decide (nI (v_vw c K P B p' j' w) = v)) (v_ways c K B j') (ix k) = v_at (fun w => v_al c K P B p' j' v w && decide (nI (cntN (v_al c K P B p' j' v) w) = k)) (v_ways c K B j') 0 := by
          unfold v_nth
          refine v_at_cong _ _ (fun w hw => ?_)
          have cl := cntN_le (v_al c K P B p' j' v) w
          have e2 : (cntN (v_al c K P B p' j' v) w = ix k) ↔ nI (cntN (v_al c K P B p' j' v) w) = k := by
            have i0 : 0 ≤ k.toInt := by
              have := Int32.le_iff_toInt_le.mp (Int32.not_lt.mp z)
              rw [show (nI 0).toInt = 0 by decide] at this
              exact this
            constructor
            · intro y
              apply Int32.toInt.inj
              rw [nI_toInt (by omega), y]
              show ((k.toInt.toNat : Nat) : Int) = _
              omega
            · rintro rfl
              rw [ix_nI (by omega)]
          show (v_al c K P B p' j' v w && decide (cntN (v_al c K P B p' j' v) w = ix k)) = _
          rw [decide_eq_decide.mpr e2]
        rw [e1]
    rw [e]
    refine wb_X11_world_0 ?_
    refine cl_X11_world_1 rfl (by decide) (cp_isPlayer _ _) ?_
    refine wb_X11_world_4 ?_
    rw [b2i_t q0, if_neg (by decide)]
    refine cl_X11_world_9 rfl (by decide) (cp_isPoint s _) ?_
    refine wb_X11_world_12 ?_
    rw [b2i_t q2, if_neg (by decide)]
    refine cl_X11_world_30 rfl (by decide) (r) ?_
    refine wb_X11_world_33 ?_
    by_cases z : v_at (fun w => v_al c K P B p' j' v w && decide (nI (cntN (v_al c K P B p' j' v) w) = k)) (v_ways c K B j') 0 = v_ways c K B j'
    · rw [if_pos z, if_pos z, if_pos (by decide)]
    · rw [if_neg z, if_neg z, if_neg (nI_n0 (by omega))]
  · rw [if_neg q]
    refine ⟨h, ?_, fr.rfl'⟩
    refine wb_X11_world_0 ?_
    refine cl_X11_world_1 rfl (by decide) (cp_isPlayer _ _) ?_
    refine wb_X11_world_4 ?_
    by_cases q0 : isPl p
    · rw [b2i_t q0, if_neg (by decide)]
      refine cl_X11_world_9 rfl (by decide) (cp_isPoint s _) ?_
      refine wb_X11_world_12 ?_
      rw [b2i_f (fun z => q ⟨q0, z⟩), if_pos rfl]
    · rw [b2i_f q0, if_pos rfl]
end S59
