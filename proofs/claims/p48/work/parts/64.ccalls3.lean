/-! THE CLASS'S CALLS: sets, plans -/
theorem wkj {d m pc : Nat} {ls ls' st : List Value} {h : AH} {R : Option Value × AH} (hx : XX true d m pc ls st h R) (hj : ax_jle ls ls' := by repeat' (first | exact ax_jle.nil | apply ax_jle.cons | apply ax_jle.skip)) : XX true d m pc ls' st h R := hx.junk hj
section S64
variable {c n np : Nat} {K P B S T C : Nat → Nat} {h h' : AH}
theorem chc_opt (s : okS c n K P B) {j : Nat} (hj : j < n) (q : isChc (K j)) : v_opt c K B j = B j ∧ (B j = 2 ∨ B j = 3) := by
  have kk := s.2.2.2 j hj
  have hn : hasN (K j) := q.elim Or.inl (fun z => Or.inr (Or.inl z))
  refine ⟨?_, kk.2.2.1 hn⟩
  unfold v_opt
  rw [if_neg (fun z => by rcases q with q | q <;> rcases z with z | z <;> omega), if_pos hn]
theorem max1 {b : Nat} (h1 : 1 ≤ b) (h : b < 2 ^ 31) : (if nI 1 < nI b then nI b else nI 1) = nI b := by
  by_cases z : b = 1
  · rw [z]; rfl
  · rw [if_pos (nI_lt (by omega) h)]
theorem co_sets (s : tS 0 c n K P B S h) (p : Int32) : ∃ h', XX true 5 39 0 [.ref 64, .int (p)] [] (h) (some (.int (a_sets c n K P B p)), h') ∧ fr cfG h h' := by
  unfold a_sets
  by_cases q : isPl p
  · rw [if_pos q]
    obtain ⟨a, ha, rfl⟩ := q.ex
    obtain ⟨h', r, f, z⟩ := sp_gather s ha
    rw [ix_nI (by omega)]
    refine ⟨h', ?_, f⟩
    refine wb_X11_sets_0 ?_
    refine cl_X11_sets_1 rfl (by decide) (cp_isPlayer _ _) ?_
    refine wb_X11_sets_4 ?_
    rw [b2i_t q, if_neg (by decide)]
    refine cl_X11_sets_22 rfl (by decide) (r) ?_
    refine wb_X11_sets_25 ?_
    rw [z.1]
  · rw [if_neg q]
    refine ⟨h, ?_, fr.rfl'⟩
    refine wb_X11_sets_0 ?_
    refine cl_X11_sets_1 rfl (by decide) (cp_isPlayer _ _) ?_
    refine wb_X11_sets_4 ?_
    rw [b2i_f q, if_pos rfl]
theorem co_setOf (s : tS 0 c n K P B S h) (tt : cP 0 np T C h) (p t w : Int32) : ∃ h', XX true 5 44 0 [.ref 64, .int (p), .int (t), .int (w)] [] (h) (some (.int (a_setOf c n K P B (v_chs np T C B) p t w)), h') ∧ fr cfG h h' := by
  unfold a_setOf
  have h6 := s.n6
  by_cases q : isPl p ∧ isLe 3 w
  · rw [if_pos q]
    obtain ⟨q0, q1⟩ := q
    obtain ⟨a, ha, rfl⟩ := q0.ex
    obtain ⟨h1, r, f, z⟩ := sp_gather s ha
    have s1 : tS 0 c n K P B S h1 := s.fr f rfl rfl
    have t1 : cP 0 np T C h1 := cP_fr tt f rfl
    have m8 := v_sM_le s.ok a
    rw [ix_nI (by omega)]
    have pre : ∀ R, XX true 5 44 34 [.ref 64, .int (nI a), .int (t), .int (w)] [] (h1) (R) → XX true 5 44 0 [.ref 64, .int (nI a), .int (t), .int (w)] [] (h) (R) := by
      intro R u
      refine wb_X11_setOf_0 ?_
      refine cl_X11_setOf_1 rfl (by decide) (cp_isPlayer _ _) ?_
      refine wb_X11_setOf_4 ?_
      rw [b2i_t q0, if_neg (by decide), if_neg (Int32.not_lt.mpr q1.1), if_pos q1.2]
      refine cl_X11_setOf_31 rfl (by decide) (r) ?_
      exact u
    refine ⟨h1, pre _ ?_, f⟩
    refine wb_X11_setOf_34 ?_
    rw [z.1]
    by_cases q2 : t < nI 0
    · rw [if_pos q2, if_neg (fun y => absurd y.1 (Int32.not_le.mpr q2))]
    · rw [if_neg q2]
      by_cases q3 : t < nI (v_sM c n K P B a)
      · have l : isLt (v_sM c n K P B a) t := ⟨Int32.not_lt.mp q2, q3⟩
        rw [if_pos q3, if_pos l]
        obtain ⟨b, hb, rfl⟩ := l.ex (by omega)
        rw [ix_nI (by omega)]
        have zt := z.2 b hb
        have si := v_set_is s.ok hb
        have vl := v_sV_lt c n K P B a b
        by_cases w0 : w = nI 0
        · rw [if_pos w0]
          refine (sw_X11_setOf_53_0 w0).mpr ?_
          refine wb_X11_setOf_80 ?_
          rw [ix_nI (by omega), zt.1]
          exact ⟨in_nI (by omega) (by decide), rfl⟩
        · rw [if_neg w0]
          by_cases w1 : w = nI 1
          · rw [if_pos w1]
            refine (sw_X11_setOf_53_1 w1).mpr ?_
            refine wb_X11_setOf_90 ?_
            rw [ix_nI (by omega), zt.2.1]
            exact ⟨in_nI (by omega) (by decide), rfl⟩
          · rw [if_neg w1]
            by_cases w2 : w = nI 2
            · rw [if_pos w2]
              refine (sw_X11_setOf_53_2 w2).mpr ?_
              refine wb_X11_setOf_100 ?_
              rw [ix_nI (by omega), zt.2.2]
              refine ⟨in_nI (by omega) (by decide), ?_⟩
              unfold v_sz
              rw [cntN_cong (q := fun x => decide ((nI (v_vw c K P B a (v_sJ c n K P B a b) x)).toInt64 = (nI (v_sV c n K P B a b)).toInt64)) (r := fun x => decide (v_vw c K P B a (v_sJ c n K P B a b) x = v_sV c n K P B a b)) _ (fun x _ => decide_eq_decide.mpr (t64_inj.trans (nI_eq (by have := (v_vw_lt s.ok (j := v_sJ c n K P B a b) (by omega) a x).2; omega) (by omega))))]
            · rw [if_neg w2]
              refine (sw_X11_setOf_53_d ?_).mpr ?_
              · apply Classical.byContradiction
                intro y
                have : ∃ j : Nat, j ≤ 2 ∧ w = nI j := nI_of3 (by decide) (Int32.le_iff_toInt_le.mpr (by rw [show (nI 0).toInt = 0 by decide]; omega)) (Int32.le_iff_toInt_le.mpr (by rw [show (nI 2).toInt = 2 by decide]; omega))
                obtain ⟨j, hj, rfl⟩ := this
                match j, hj with
                | 0, _ => exact w0 rfl
                | 1, _ => exact w1 rfl
                | 2, _ => exact w2 rfl
              · refine wb_X11_setOf_110 ?_
                rw [ix_nI (by omega), zt.1, zt.2.1]
                refine ⟨in_nI (by omega) (by decide), in_nI (by omega) (by decide), ?_⟩
                refine cl_X11_setOf_133 rfl (by decide) (sp_choice s1 t1 (by omega) si.1 vl) ?_
                refine wb_X11_setOf_136 ?_
                rfl
      · rw [if_neg q3, if_neg (fun y => q3 y.2)]
  · rw [if_neg q]
    refine ⟨h, ?_, fr.rfl'⟩
    refine wb_X11_setOf_0 ?_
    refine cl_X11_setOf_1 rfl (by decide) (cp_isPlayer _ _) ?_
    refine wb_X11_setOf_4 ?_
    by_cases q0 : isPl p
    · rw [b2i_t q0, if_neg (by decide)]
      by_cases q1 : w < nI 0
      · rw [if_pos q1]
      · rw [if_neg q1]
        by_cases q2 : w ≤ nI 3
        · exact absurd ⟨q0, Int32.not_lt.mp q1, q2⟩ q
        · rw [if_neg q2]
    · rw [b2i_f q0, if_pos rfl]
abbrev cfL : List (Nat × Option Nat) := [(86, none), (88, none), (89, none), (87, some 2)]
theorem co_plan (s : tS 0 c n K P B S h) (t : cP 0 np T C h) (p j v x : Int32) : (plans' c n K P B np T p j v x → ∃ h', XX true 4 45 0 [.ref 64, .int (p), .int (j), .int (v), .int (x), ax_junk] [] (h) (some (.int (a_plan c n K P B (v_chs np T C B) np T p j v x)), h') ∧ fr cfL h h' ∧ cP 0 (v_tn np T (ix p) (ix j) (ix v)) (updN T (v_pat np T (ix p) (ix j) (ix v)) (v_key (ix p) (ix j) (ix v))) (updN C (v_pat np T (ix p) (ix j) (ix v)) (ix x)) h') ∧ (¬ plans' c n K P B np T p j v x → ∃ h', XX true 4 45 0 [.ref 64, .int (p), .int (j), .int (v), .int (x), ax_junk] [] (h) (some (.int (a_plan c n K P B (v_chs np T C B) np T p j v x)), h') ∧ fr [(86, none)] h h') := by
  have h6 := s.n6
  have cq : ∀ {p' j' : Nat}, cntN (v_al c K P B p' j' v) (v_ways c K B j') = v_cnt c K P B p' j' v := cntN_cong _ (fun w _ => decide_eq_decide.mpr t64_inj.symm)
  -- up to the count
  have pre : ∀ R, (¬ planOk n K P B p j x → R = (some (.int (-nI 2)), h)) → (planOk n K P B p j x → ∀ p' j' x', p = nI p' → j = nI j' → x = nI x' → p' < 3 → j' < n → x' < B j' → isChc (K j') → B j' ≤ 3 → XX true 4 45 57 [.ref 64, .int (p), .int (j), .int (v), .int (x), ax_junk] [.int (v), .int (j), .int (p), .ref 66] (h) (R)) → XX true 4 45 0 [.ref 64, .int (p), .int (j), .int (v), .int (x), ax_junk] [] (h) (R) := by
    intro R u1 u2
    refine wb_X11_plan_0 ?_
    refine cl_X11_plan_1 rfl (by decide) (cp_isPlayer _ _) ?_
    refine wb_X11_plan_4 ?_
    by_cases q0 : isPl p
    · rw [b2i_t q0, if_neg (by decide)]
      refine cl_X11_plan_16 rfl (by decide) (sp_picks s p j) ?_
      refine wb_X11_plan_19 ?_
      by_cases q1 : isLt n j ∧ isChc (K (ix j)) ∧ p = nI (P (ix j))
      · rw [b2i_t q1, if_neg (by decide)]
        obtain ⟨y1, y2, y3⟩ := q1
        obtain ⟨p', hp, rfl⟩ := q0.ex
        obtain ⟨j', hj, rfl⟩ := y1.ex (by omega)
        have ej : ix (nI j') = j' := ix_nI (by omega)
        have ep : ix (nI p') = p' := ix_nI (by omega)
        rw [ej] at y2 y3
        have oc := chc_opt s.ok hj y2
        have kk := s.kk hj
        have eP : P j' = p' := ((nI_eq (by omega) (by omega)).mp y3).symm
        by_cases q2 : x < nI 0
        · rw [if_pos q2]
          exact u1 (fun z => absurd z.2.2.2.2.1 (Int32.not_le.mpr q2))
        · rw [if_neg q2, ej, s.fan j' hj, oc.1]
          refine ⟨in_nI (by omega) (by decide), ?_⟩
          by_cases q3 : x < nI (B j')
          · rw [if_pos q3]
            have lx : isLt (B j') x := ⟨Int32.not_lt.mp q2, q3⟩
            have ok : planOk n K P B (nI p') (nI j') x := ⟨q0, y1, by rw [ej]; exact y2, by rw [ej, ep]; exact eP, by rw [ej]; exact lx⟩
            obtain ⟨x', hx, rfl⟩ := lx.ex (by omega)
            exact u2 ok p' j' x' rfl rfl rfl hp hj hx y2 (by omega)
          · rw [if_neg q3]
            exact u1 (fun z => q3 (by have := z.2.2.2.2.2; rw [ej] at this; exact this))
      · rw [b2i_f q1, if_pos rfl]
        refine u1 (fun z => q1 ⟨z.2.1, z.2.2.1, ?_⟩)
        obtain ⟨p', hp, rfl⟩ := q0.ex
        rw [z.2.2.2.1, ix_nI (by omega)]
    · rw [b2i_f q0, if_pos rfl]
      exact u1 (fun z => q0 z.1)
  by_cases ok : planOk n K P B p j x
  · obtain ⟨p', hp, rfl⟩ := ok.1.ex
    obtain ⟨j', hj, rfl⟩ := ok.2.1.ex (by omega)
    have ej : ix (nI j') = j' := ix_nI (by omega)
    have ep : ix (nI p') = p' := ix_nI (by omega)
    have okc := ok.2.2.1
    rw [ej] at okc
    have oc := chc_opt s.ok hj okc
    have lx := ok.2.2.2.2
    rw [ej] at lx
    obtain ⟨x', hx, rfl⟩ := lx.ex (by omega)
    have ex : ix (nI x') = x' := ix_nI (by omega)
    obtain ⟨h1, r1, f1⟩ := sp_alike s hp (Nat.le_of_lt hj) v
    rw [cq] at r1
    have s1 : tS 0 c n K P B S h1 := s.fr f1 rfl rfl
    have t1 : cP 0 np T C h1 := cP_fr t f1 rfl
    have g57 : ∀ R, XX true 4 45 60 [.ref 64, .int (nI p'), .int (nI j'), .int (v), .int (nI x'), ax_junk] [.int (nI (v_cnt c K P B p' j' v))] (h1) (R) → XX true 4 45 0 [.ref 64, .int (nI p'), .int (nI j'), .int (v), .int (nI x'), ax_junk] [] (h) (R) := by
      intro R u
      refine pre _ (fun z => absurd ok z) (fun _ _ _ _ _ _ _ _ _ _ _ _ => ?_)
      refine cl_X11_plan_57 rfl (by decide) (r1) ?_
      exact u
    unfold a_plan
    rw [if_pos ok]
    have cl := cntN_le (fun w => decide ((nI (v_vw c K P B p' j' w)).toInt64 = v.toInt64)) (v_ways c K B j')
    have wl := v_ways_le s.ok (Nat.le_of_lt hj)
    have cl' : v_cnt c K P B p' j' v ≤ 1620 := Nat.le_trans cl wl
    simp only [ej, ep, ex]
    by_cases c0 : v_cnt c K P B p' j' v = 0
    · refine ⟨fun y => absurd c0 (by have := y.2.1; rw [ej, ep] at this; exact this), fun _ => ⟨h1, ?_, f1⟩⟩
      rw [if_pos c0]
      refine g57 _ ?_
      refine wb_X11_plan_60 ?_
      rw [c0, if_pos (by decide)]
    · obtain ⟨v', rfl, hv⟩ := v_cnt_view s.ok (Nat.le_of_lt hj) c0
      have ev : ix (nI v') = v' := ix_nI (by omega)
      simp only [ev]
      rw [if_neg c0]
      have g60 : ∀ R r h2, XX true 2 46 0 [.ref 87, .int (nI p'), .int (nI j'), .int (nI v'), .int (nI x'), ax_junk, ax_junk] [] h1 (some (.int r), h2) → XX true 4 45 92 [ax_junk, ax_junk, ax_junk, ax_junk, ax_junk, .int (nI (v_chs np T C B p' j' v'))] [.int (r)] (h2) (R) → XX true 4 45 0 [.ref 64, .int (nI p'), .int (nI j'), .int (nI v'), .int (nI x'), ax_junk] [] (h) (R) := by
        intro R r h2 rr u
        refine g57 _ ?_
        refine wb_X11_plan_60 ?_
        rw [if_neg (nI_z (by omega) (by omega))]
        refine cl_X11_plan_72 rfl (by decide) (sp_choice s1 t1 (by omega) hj hv) ?_
        refine wb_X11_plan_75 ?_
        refine cl_X11_plan_89 rfl (by decide) (rr) ?_
        exact wkj u
      by_cases q : v_pat np T p' j' v' < 40
      · obtain ⟨h2, r2, f2, m2⟩ := sp_tell t1 (p := p') (j := j') (v := v') (x := x') (by omega) (by omega) hv (by omega) q
        refine ⟨fun _ => ⟨h2, ?_, (f1.mono rfl).trans (f2.mono rfl), m2⟩, fun y => absurd ⟨ok, by rw [ej, ep]; exact c0, by rw [ej, ep, ev]; exact q⟩ y⟩
        rw [if_pos q]
        refine g60 _ _ _ r2 ?_
        refine wb_X11_plan_92 ?_
        rw [if_neg (by decide)]
      · refine ⟨fun y => absurd (by have := y.2.2; rw [ej, ep, ev] at this; exact this) q, fun _ => ⟨h1, ?_, f1⟩⟩
        rw [if_neg q]
        refine g60 _ _ _ (sp_tell_no t1 (by omega) (by omega) hv q) ?_
        refine wb_X11_plan_92 ?_
        rw [if_pos rfl]
  · refine ⟨fun y => absurd y.1 ok, fun _ => ⟨h, ?_, fr.rfl'⟩⟩
    unfold a_plan
    rw [if_neg ok]
    exact pre _ (fun _ => rfl) (fun z => absurd z ok)
abbrev cPS (x : PS) (h : AH) : Prop := cP 0 x.2.1 x.2.2.1 x.2.2.2 h
theorem sp_clot_in {p m : Nat} (hp : p < 3) : ∀ f t, t + f = v_sM c n K P B p → ∀ x h1, tS 0 c n K P B S h1 → cSets c n K P B p h1 → cPS x h1 → ∃ h2, fr [(88, none), (89, none), (87, some 2)] h1 h2 ∧ cPS (v_lk c n K P B p f t x).2 h2 ∧ ((v_lk c n K P B p f t x).1 = true → ∀ R, XX true 5 110 7 [.ref 64, ax_junk, .int (nI (m + v_sM c n K P B p)), .int ((v_lk c n K P B p f t x).2.1), .int (nI (p + 1)), ax_junk, ax_junk] [] (h2) (R) → XX true 5 110 32 [.ref 64, ax_junk, .int (nI (m + t)), .int (x.1), .int (nI p), .int (nI t), ax_junk] [] (h1) (R)) ∧ ((v_lk c n K P B p f t x).1 = false → XX true 5 110 32 [.ref 64, ax_junk, .int (nI (m + t)), .int (x.1), .int (nI p), .int (nI t), ax_junk] [] (h1) ((some (.int (-nI 4)), h2))) := by
  intro f
  induction f with
  | zero =>
    intro t ht x h1 s z mx
    have e : t = v_sM c n K P B p := ht
    have m8 := v_sM_le s.ok p
    refine ⟨h1, fr.rfl', mx, fun _ R u => ?_, fun u => (by cases u)⟩
    refine wb_X11_lot_32 ?_
    rw [z.1, if_neg (nI_nlt (by omega) (by omega)), nI_s]
    rw [← e] at u
    exact u
  | succ f ih =>
    intro t ht x h1 s z mx
    have m8 := v_sM_le s.ok p
    have h6 := s.n6
    have si := v_set_is s.ok (p := p) (t := t) (by omega)
    have vl := v_sV_lt c n K P B p t
    have b3 := v_setB s.ok (p := p) (t := t) (by omega)
    have zt := z.2 t (by omega)
    have l8 := v_l8_lt (v_lz x.1)
    have ml := Nat.mod_lt (v_l8 (v_lz x.1)) (show 0 < B (v_sJ c n K P B p t) by omega)
    have oc := chc_opt s.ok si.1 si.2.1.1
    have p51 : ∀ R r h2, XX true 2 46 0 [.ref 87, .int (nI p), .int (nI (v_sJ c n K P B p t)), .int (nI (v_sV c n K P B p t)), .int (nI (v_l8 (v_lz x.1) % B (v_sJ c n K P B p t))), ax_junk, ax_junk] [] h1 (some (.int r), h2) → XX true 5 110 119 [.ref 64, ax_junk, .int (nI (m + t)), .int (v_lz x.1), .int (nI p), .int (nI t), ax_junk] [.int (r)] (h2) (R) → XX true 5 110 32 [.ref 64, ax_junk, .int (nI (m + t)), .int (x.1), .int (nI p), .int (nI t), ax_junk] [] (h1) (R) := by
      intro R r h2 rr u
      refine wb_X11_lot_32 ?_
      rw [z.1, if_pos (nI_lt (by omega) (by omega)), ix_nI (by omega), zt.1, zt.2.1, ix_nI (by omega), s.fan _ si.1, oc.1, max1 (by omega) (by omega), ← v_lz_eq, v_l8_is, nI_divI (by omega) (by omega), nI_mulI, nI_remI]
      refine ⟨in_nI (by omega) (by decide), in_nI (by omega) (by decide), in_nI (by omega) (by decide), in_nI (by omega) (by decide), ?_, ?_⟩
      · simp only [Bool.not_eq_true', decide_eq_false_iff_not]
        exact nI_ne0 (by omega) (by omega)
      · refine cl_X11_lot_116 rfl (by decide) (rr) ?_
        exact wkj u
    unfold v_lk
    by_cases q : v_pat x.2.1 x.2.2.1 p (v_sJ c n K P B p t) (v_sV c n K P B p t) < 40
    · rw [if_pos q]
      obtain ⟨h2, r2, f2, m2⟩ := sp_tell mx (p := p) (j := v_sJ c n K P B p t) (v := v_sV c n K P B p t) (x := v_l8 (v_lz x.1) % B (v_sJ c n K P B p t)) (by omega) (by omega) vl (by omega) q
      obtain ⟨h3, f3, mx3, g1, g2⟩ := ih (t + 1) (by omega) (v_tl x (v_lz x.1) p (v_sJ c n K P B p t) (v_sV c n K P B p t) (v_l8 (v_lz x.1) % B (v_sJ c n K P B p t))) h2 (s.fr f2 rfl rfl) (cSets_fr z f2 rfl) m2
      refine ⟨h3, f2.trans f3, mx3, fun u R y => p51 R _ _ r2 ?_, fun u => p51 _ _ _ r2 ?_⟩
      · refine wb_X11_lot_119 ?_
        rw [if_neg (by decide), nI_s, nI_s, Nat.add_assoc]
        exact g1 u R y
      · refine wb_X11_lot_119 ?_
        rw [if_neg (by decide), nI_s, nI_s, Nat.add_assoc]
        exact g2 u
    · rw [if_neg q]
      refine ⟨h1, fr.rfl', mx, fun u => (by cases u), fun _ => p51 _ _ _ (sp_tell_no mx (p := p) (j := v_sJ c n K P B p t) (v := v_sV c n K P B p t) (x := v_l8 (v_lz x.1) % B (v_sJ c n K P B p t)) (by omega) (by omega) vl q) ?_⟩
      refine wb_X11_lot_119 ?_
      rw [if_pos rfl]
abbrev cfLo : List (Nat × Option Nat) := [(86, none), (127, none), (124, none), (125, none), (126, none), (123, some 3), (88, none), (89, none), (87, some 2)]
theorem co_lot (s : tS 0 c n K P B S h) (t : cP 0 np T C h) (z : Int32) : ∃ h', XX true 5 110 0 [.ref 64, .int (z), ax_junk, ax_junk, ax_junk, ax_junk, ax_junk] [] (h) (some (.int ((v_lot c n K P B np T C z).1)), h') ∧ fr cfLo h h' ∧ cPS (v_lot c n K P B np T C z).2 h' := by
  have h6 := s.n6
  have lp : ∀ f p, p + f = 3 → ∀ m, m ≤ 806 * p → ∀ x h1, fr cfLo h h1 → cPS x h1 → ∃ h', XX true 5 110 7 [.ref 64, ax_junk, .int (nI m), .int (x.1), .int (nI p), ax_junk, ax_junk] [] (h1) ((some (.int (v_lp c n K P B f p m x).1), h')) ∧ fr cfLo h h' ∧ cPS (v_lp c n K P B f p m x).2 h' := by
    intro f
    induction f with
    | zero =>
      intro p hp m hm x h1 f1 mx
      obtain rfl : p = 3 := hp
      refine ⟨h1, ?_, f1, mx⟩
      refine wb_X11_lot_7 ?_
      rw [if_neg (by decide)]
      rfl
    | succ f ih =>
      intro p hp m hm x h1 f1 mx
      have s1 : tS 0 c n K P B S h1 := s.fr f1 rfl rfl
      have m8 := v_sM_le s.ok p
      obtain ⟨h2, r2, f2, z2⟩ := sp_gather s1 (p := p) (by omega)
      have s2 : tS 0 c n K P B S h2 := s1.fr f2 rfl rfl
      obtain ⟨h3, f3, mx3, g1, g2⟩ := sp_clot_in (c := c) (n := n) (K := K) (P := P) (B := B) (p := p) (m := m) (by omega) (v_sM c n K P B p) 0 (Nat.zero_add _) x h2 s2 z2 (cP_fr mx f2 rfl)
      have f13 : fr cfLo h h3 := (f1.trans (f2.mono rfl)).trans (f3.mono rfl)
      have pre : ∀ R, XX true 5 110 32 [.ref 64, ax_junk, .int (nI (m + 0)), .int (x.1), .int (nI p), .int (nI 0), ax_junk] [] (h2) (R) → XX true 5 110 7 [.ref 64, ax_junk, .int (nI m), .int (x.1), .int (nI p), ax_junk, ax_junk] [] (h1) (R) := by
        intro R u
        refine wb_X11_lot_7 ?_
        rw [if_pos (nI_lt (by omega) (by omega))]
        refine cl_X11_lot_26 rfl (by decide) (r2) ?_
        refine wb_X11_lot_29 ?_
        exact u
      unfold v_lp
      by_cases q : (v_lk c n K P B p (v_sM c n K P B p) 0 x).1 = true
      · rw [if_pos q]
        obtain ⟨h', r', f', mx'⟩ := ih (p + 1) (by omega) (m + v_sM c n K P B p) (by omega) _ h3 f13 mx3
        exact ⟨h', pre _ (g1 q _ r'), f', mx'⟩
      · rw [if_neg q]
        exact ⟨h3, pre _ (g2 (Bool.eq_false_iff.mpr q)), f13, mx3⟩
  obtain ⟨h', r', f', mx'⟩ := lp 3 0 rfl 0 (Nat.le_refl _) (z, np, T, C) h fr.rfl' t
  refine ⟨h', ?_, f', mx'⟩
  refine wb_X11_lot_0 ?_
  exact r'
end S64
