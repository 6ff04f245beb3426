/-! REPLIES: the first best of all -/
abbrev frR : List (Nat × Option Nat) := [(160, none), (161, none), (162, none), (153, some 14), (153, some 23), (166, none), (167, none), (168, none), (164, none), (165, none), (153, some 19)]
section S33
variable {c n np nr : Nat} {K P B T C : Nat → Nat} {U : Nat → Nat → Nat} {V W : Nat → Int} {h h' : AH}
theorem lI_le {a b : Int} (h1 : -9223372036854775808 ≤ a) (h2 : a < 9223372036854775808) (h3 : -9223372036854775808 ≤ b) (h4 : b < 9223372036854775808) : lI a ≤ lI b ↔ a ≤ b := by rw [Int64.le_iff_toInt_le, lI_toInt h1 h2, lI_toInt h3 h4]
/-- the best so far lies there -/
def mBest (c n : Nat) (K P B : Nat → Nat) (p : Nat) (x : Int) (bt : Nat → Nat) (h : AH) : Prop := hL h 153 19 = lI x ∧ ∀ t, t < v_sM c n K P B p → hI h 165 t = nI (bt t)
theorem sp_fr_copy (s : mS c n K P B h) {p : Nat} (z : mSets c n K P B p h) {x : Int} {tr : Nat → Nat} (ht : mTr c n K P B p tr h) (hx : hL h 153 19 = lI x) : ∃ h2, fr [(165, none)] h h2 ∧ mBest c n K P B p x tr h2 ∧ ∀ R, XX true 18 216 99 [.ref 153, ax_junk, ax_junk, ax_junk, ax_junk, ax_junk, ax_junk] [] (h2) (R) → XX true 18 216 70 [.ref 153, ax_junk, ax_junk, ax_junk, ax_junk, ax_junk, .int (nI 0)] [] (h) (R) := by
  have m8 := v_sM_le s.1 p
  have lp : ∀ k i, i + k = v_sM c n K P B p → ∀ h1, fr [(165, none)] h h1 → (∀ t, t < i → hI h1 165 t = nI (tr t)) → ∃ h2, fr [(165, none)] h h2 ∧ mBest c n K P B p x tr h2 ∧ ∀ R, XX true 18 216 99 [.ref 153, ax_junk, ax_junk, ax_junk, ax_junk, ax_junk, ax_junk] [] (h2) (R) → XX true 18 216 70 [.ref 153, ax_junk, ax_junk, ax_junk, ax_junk, ax_junk, .int (nI i)] [] (h1) (R) := by
    intro k
    induction k with
    | zero =>
      intro i hi h1 f lo
      have e : i = v_sM c n K P B p := hi
      refine ⟨h1, f, ⟨(f.L rfl).trans hx, fun t tl => lo t (by omega)⟩, fun R u => ?_⟩
      refine wb_X12_findsReply_70 ?_
      rw [f.I rfl, z.1, if_neg (nI_nlt (by omega) (by omega))]
      exact wk_X12_findsReply_99 u
    | succ k ih =>
      intro i hi h1 f lo
      obtain ⟨h2, a, b, g⟩ := ih (i + 1) (by omega) (ax_wr h1 165 i (.int (nI (tr i)))) (f.wr' (by simp [inS])) (fun t tl => by
        by_cases e : t = i
        · rw [e, wr_I]
        · rw [wr_Ij e]
          exact lo t (by omega))
      refine ⟨h2, a, b, fun R u => ?_⟩
      have e1 : hI h1 164 i = nI (tr i) := (f.I rfl).trans (ht i (by omega))
      refine wb_X12_findsReply_70 ?_
      rw [f.I rfl, z.1, if_pos (nI_lt (by omega) (by omega)), ix_nI (by omega), e1, nI_s]
      exact ⟨in_nI (by omega) (by decide), in_nI (by omega) (by decide), wk_X12_findsReply_70 (g R u)⟩
  exact lp _ 0 (Nat.zero_add _) h fr.rfl' (fun t tl => absurd tl (Nat.not_lt_zero _))
theorem v_much_pr {p : Nat} (q : v_much c n K P B p (v_sM c n K P B p) ≤ 729) : ∀ t, t ≤ v_sM c n K P B p → v_much c n K P B p t = v_pr (fun t => B (v_sJ c n K P B p t)) t
  | 0, _ => rfl
  | t + 1, ht => by
    have ih := v_much_pr q t (by omega)
    have lt : v_much c n K P B p t ≤ 729 := by
      by_cases z : v_much c n K P B p t ≤ 729
      · exact z
      · have := v_much_stay z (v_sM c n K P B p - t)
        rw [show t + (v_sM c n K P B p - t) = v_sM c n K P B p by omega] at this
        omega
    show (if v_much c n K P B p t ≤ 729 then v_much c n K P B p t * B (v_sJ c n K P B p t) else v_much c n K P B p t) = v_pr (fun t => B (v_sJ c n K P B p t)) t * B (v_sJ c n K P B p t)
    rw [if_pos lt, ih]
theorem sp_findsReply (s : mS c n K P B h) (t : mP np T C h) (w : mW W h) (r : mR nr U V h) {p : Nat} (hp : p < 3) (nm : v_much c n K P B p (v_sM c n K P B p) ≤ 729) : ∃ h', XX true 18 216 0 [.ref 153, .int (nI p), ax_junk, ax_junk, ax_junk, ax_junk, ax_junk] [] (h) (none, h') ∧ fr frR h h' ∧ mSets c n K P B p h' ∧ mBest c n K P B p (v_rep c n K P B (v_chs np T C B) U V W nr p).1 (v_rep c n K P B (v_chs np T C B) U V W nr p).2 h' := by
  have h6 := s.n6
  have m8 := v_sM_le s.1 p
  have wl := v_ways_le s.1 (Nat.le_refl n)
  have ww : ∀ i, i < 5 → -9 ≤ W i ∧ W i ≤ 9 := fun i hi => (w i hi).2
  have okr := r.2.1
  obtain ⟨ha, ra, fa, za⟩ := sp_laysSets s hp
  have sa : mS c n K P B ha := s.fr fa rfl
  obtain ⟨hb, m, f, rb, fb, hm, plb, ps⟩ := sp_laysPlayed sa (t.fr fa rfl) (w.fr fa (fun _ => rfl)) (r.fr fa (fun _ => rfl) rfl) hp za
  have zb := za.fr fb (fun _ => rfl) (fun _ => rfl) rfl
  have sb : mS c n K P B hb := sa.fr fb rfl
  have fab : fr frR h hb := (fa.mono rfl).trans (fb.mono rfl)
  have b3 : ∀ t, t < v_sM c n K P B p → B (v_sJ c n K P B p t) = 2 ∨ B (v_sJ c n K P B p t) = 3 := fun t ht => v_setB s.1 ht
  have prle : v_pr (fun t => B (v_sJ c n K P B p t)) (v_sM c n K P B p) ≤ 729 := by rw [← v_much_pr nm _ (Nat.le_refl _)]; exact nm
  have sum_eq : ∀ tr, sumZ (fun k => v_mtf c n K P B U V W nr p tr (f k)) m = v_trS c n K P B (v_chs np T C B) U V W nr p tr := fun tr => ps (v_mtf c n K P B U V W nr p tr)
  -- the sum tried at 37
  have tri : ∀ h1 tr, fr frR hb h1 → fr [(164, none), (165, none), (153, some 19)] hb h1 → mTr c n K P B p tr h1 → (∀ t, t < v_sM c n K P B p → tr t < B (v_sJ c n K P B p t)) → ∀ b R, XX true 18 216 45 [.ref 153, ax_junk, .int (b), ax_junk, ax_junk, ax_junk, ax_junk] [.long (lI (v_trS c n K P B (v_chs np T C B) U V W nr p tr))] (h1) (R) → XX true 18 216 37 [.ref 153, ax_junk, .int (b), .int (nI 1), ax_junk, ax_junk, ax_junk] [] (h1) (R) := by
    intro h1 tr _ f1 ht hv b R u
    have s1 : mS c n K P B h1 := sb.fr f1 rfl
    have pl1 := plb.fr f1 rfl (fun _ => rfl) (fun _ => rfl) (fun _ => rfl)
    have ts := sp_triedSum s1 ww okr (by omega) pl1 ht (fun t tl => by have := hv t tl; have := b3 t tl; omega)
    rw [sum_eq] at ts
    refine wb_X12_findsReply_37 ?_
    rw [if_neg (by decide)]
    refine (cl_X12_findsReply_42 rfl (by decide) (ts)).mpr ?_
    exact wk_X12_findsReply_45 u
  -- from 99 on
  have go : ∀ fu tr x bt h1, fr [(164, none), (165, none), (153, some 19)] hb h1 → mTr c n K P B p tr h1 → (∀ t, t < v_sM c n K P B p → tr t < B (v_sJ c n K P B p t)) → mBest c n K P B p x bt h1 → -30000000 ≤ x → x ≤ 30000000 → v_pr (fun t => B (v_sJ c n K P B p t)) (v_sM c n K P B p) ≤ v_rk (fun t => B (v_sJ c n K P B p t)) (v_sM c n K P B p) tr + fu → ∃ h', XX true 18 216 99 [.ref 153, ax_junk, ax_junk, ax_junk, ax_junk, ax_junk, ax_junk] [] (h1) ((none, h')) ∧ fr [(164, none), (165, none), (153, some 19)] hb h' ∧ mBest c n K P B p (v_go (v_trS c n K P B (v_chs np T C B) U V W nr p) (fun t => B (v_sJ c n K P B p t)) (v_sM c n K P B p) fu tr x bt).1 (v_go (v_trS c n K P B (v_chs np T C B) U V W nr p) (fun t => B (v_sJ c n K P B p t)) (v_sM c n K P B p) fu tr x bt).2 h' := by
    intro fu
    induction fu with
    | zero =>
      intro tr x bt h1 _ _ hv _ _ _ le
      have := v_rk_lt (fun t => B (v_sJ c n K P B p t)) (v_sM c n K P B p) tr hv
      omega
    | succ fu ih =>
      intro tr x bt h1 f1 ht hv mb x1 x2 le
      have s1 : mS c n K P B h1 := sb.fr f1 rfl
      have z1 := zb.fr f1 (fun _ => rfl) (fun _ => rfl) rfl
      obtain ⟨h2, r2, f2, t2⟩ := sp_goesOn s1 z1 ht hv
      have f12 : fr [(164, none), (165, none), (153, some 19)] hb h2 := f1.trans (f2.mono rfl)
      have mb2 : mBest c n K P B p x bt h2 := ⟨(f2.L rfl).trans mb.1, fun t tl => (f2.I rfl).trans (mb.2 t tl)⟩
      have rk := v_nxt_rk (fun t => B (v_sJ c n K P B p t)) (v_sM c n K P B p) tr hv
      have nv := v_nxt_lt (fun t => B (v_sJ c n K P B p t)) (v_sM c n K P B p) tr hv
      unfold v_go
      generalize v_nxt (fun t => B (v_sJ c n K P B p t)) (v_sM c n K P B p) tr = nx at *
      have pre : ∀ R, XX true 18 216 37 [.ref 153, ax_junk, .int (nI 0), .int (b2i (nx.2 = true)), ax_junk, ax_junk, ax_junk] [] (h2) (R) → XX true 18 216 99 [.ref 153, ax_junk, ax_junk, ax_junk, ax_junk, ax_junk, ax_junk] [] (h1) (R) := by
        intro R u
        refine wb_X12_findsReply_99 ?_
        refine (cl_X12_findsReply_102 rfl (by decide) (r2)).mpr ?_
        refine wb_X12_findsReply_105 ?_
        exact wk_X12_findsReply_37 u
      by_cases q : nx.2 = true
      · rw [if_pos q]
        have tb := v_trS_le (nr := nr) (U := U) (V := V) (W := W) s.1 okr ww (v_chs np T C B) p nx.1
        have rk' := rk.1 q
        have t37 := tri h2 nx.1 (f12.mono rfl) f12 t2 nv (nI 0)
        by_cases q2 : x < v_trS c n K P B (v_chs np T C B) U V W nr p nx.1
        · rw [if_pos q2]
          have fw : fr [(164, none), (165, none), (153, some 19)] hb (ax_wr h2 153 19 (.long (lI (v_trS c n K P B (v_chs np T C B) U V W nr p nx.1)))) := f12.wr' rfl
          obtain ⟨h3, f3, mb3, g3⟩ := sp_fr_copy (h := ax_wr h2 153 19 (.long (lI (v_trS c n K P B (v_chs np T C B) U V W nr p nx.1)))) (sb.fr fw rfl) (zb.fr fw (fun _ => rfl) (fun _ => rfl) rfl) (x := v_trS c n K P B (v_chs np T C B) U V W nr p nx.1) (tr := nx.1) (fun t tl => (wr_Ia (by decide)).trans (t2 t tl)) (wr_L _ _ _ _)
          obtain ⟨h', r', f', mb'⟩ := ih nx.1 _ nx.1 h3 (fw.trans (f3.mono rfl)) (fun t tl => (f3.I rfl).trans ((wr_Ia (by decide)).trans (t2 t tl))) nv mb3 tb.1 tb.2 (by omega)
          refine ⟨h', pre _ ?_, f', mb'⟩
          rw [b2i_t q]
          refine t37 _ ?_
          refine wb_X12_findsReply_45 ?_
          rw [if_pos rfl, mb2.1, if_neg (fun u => by have := (lI_le (by omega) (by omega) (by omega) (by omega)).mp ((lg_le0 _ _).mp u); omega)]
          refine wk_X12_findsReply_61 ?_
          refine wb_X12_findsReply_61 ?_
          exact wk_X12_findsReply_70 (g3 _ r')
        · rw [if_neg q2]
          obtain ⟨h', r', f', mb'⟩ := ih nx.1 x bt h2 f12 t2 nv mb2 x1 x2 (by omega)
          refine ⟨h', pre _ ?_, f', mb'⟩
          rw [b2i_t q]
          refine t37 _ ?_
          refine wb_X12_findsReply_45 ?_
          rw [if_pos rfl, mb2.1, if_pos ((lg_le0 _ _).mpr ((lI_le (by omega) (by omega) (by omega) (by omega)).mpr (by omega)))]
          exact wk_X12_findsReply_99 r'
      · rw [if_neg q]
        refine ⟨h2, pre _ ?_, f12, mb2⟩
        rw [b2i_f q]
        refine wb_X12_findsReply_37 ?_
        rw [if_pos rfl]
  -- zeros first
  have zer : ∀ k i, i + k = v_sM c n K P B p → ∀ h1, fr [(164, none)] hb h1 → (∀ t, t < i → hI h1 164 t = nI 0) → ∃ h2, fr [(164, none)] hb h2 ∧ mTr c n K P B p (fun _ => 0) h2 ∧ ∀ R, XX true 18 216 37 [.ref 153, ax_junk, .int (nI 1), .int (nI 1), ax_junk, ax_junk, ax_junk] [] (h2) (R) → XX true 18 216 12 [.ref 153, ax_junk, .int (nI i), ax_junk, ax_junk, ax_junk, ax_junk] [] (h1) (R) := by
    intro k
    induction k with
    | zero =>
      intro i hi h1 f1 lo
      have e : i = v_sM c n K P B p := hi
      refine ⟨h1, f1, fun t tl => lo t (by omega), fun R u => ?_⟩
      refine wb_X12_findsReply_12 ?_
      rw [f1.I rfl, zb.1, if_neg (nI_nlt (by omega) (by omega))]
      exact wk_X12_findsReply_37 u
    | succ k ih =>
      intro i hi h1 f1 lo
      obtain ⟨h2, a, b, g⟩ := ih (i + 1) (by omega) (ax_wr h1 164 i (.int (nI 0))) (f1.wr' (by simp [inS])) (fun t tl => by
        by_cases e : t = i
        · rw [e, wr_I]
        · rw [wr_Ij e]
          exact lo t (by omega))
      refine ⟨h2, a, b, fun R u => ?_⟩
      refine wb_X12_findsReply_12 ?_
      rw [f1.I rfl, zb.1, if_pos (nI_lt (by omega) (by omega)), ix_nI (by omega), nI_s]
      exact ⟨in_nI (by omega) (by decide), wk_X12_findsReply_12 (g R u)⟩
  obtain ⟨h1, f1, t1, g1⟩ := zer _ 0 (Nat.zero_add _) hb fr.rfl' (fun t tl => absurd tl (Nat.not_lt_zero _))
  have f1' : fr [(164, none), (165, none), (153, some 19)] hb h1 := f1.mono rfl
  have z0 : ∀ t, t < v_sM c n K P B p → (fun _ : Nat => 0) t < B (v_sJ c n K P B p t) := fun t tl => by have := b3 t tl; show 0 < _; omega
  have tb := v_trS_le (nr := nr) (U := U) (V := V) (W := W) s.1 okr ww (v_chs np T C B) p (fun _ => 0)
  have fw : fr [(164, none), (165, none), (153, some 19)] hb (ax_wr h1 153 19 (.long (lI (v_trS c n K P B (v_chs np T C B) U V W nr p fun _ => 0)))) := f1'.wr' rfl
  obtain ⟨h3, f3, mb3, g3⟩ := sp_fr_copy (h := ax_wr h1 153 19 (.long (lI (v_trS c n K P B (v_chs np T C B) U V W nr p fun _ => 0)))) (sb.fr fw rfl) (zb.fr fw (fun _ => rfl) (fun _ => rfl) rfl) (x := v_trS c n K P B (v_chs np T C B) U V W nr p fun _ => 0) (tr := fun _ => 0) (fun t tl => (wr_Ia (by decide)).trans (t1 t tl)) (wr_L _ _ _ _)
  obtain ⟨h', r', f', mb'⟩ := go 800 (fun _ => 0) _ (fun _ => 0) h3 (fw.trans (f3.mono rfl)) (fun t tl => (f3.I rfl).trans ((wr_Ia (by decide)).trans (t1 t tl))) z0 mb3 tb.1 tb.2 (by omega)
  refine ⟨h', ?_, fab.trans (f'.mono rfl), zb.fr f' (fun _ => rfl) (fun _ => rfl) rfl, mb'⟩
  refine wb_X12_findsReply_0 ?_
  refine (cl_X12_findsReply_2 rfl (by decide) (ra)).mpr ?_
  refine wb_X12_findsReply_5 ?_
  refine (cl_X12_findsReply_7 rfl (by decide) (rb)).mpr ?_
  refine wb_X12_findsReply_10 ?_
  refine wk_X12_findsReply_12 (g1 _ (tri h1 _ (f1'.mono rfl) f1' t1 z0 (nI 1) _ ?_))
  refine wb_X12_findsReply_45 ?_
  rw [if_neg (by decide)]
  refine wk_X12_findsReply_61 ?_
  refine wb_X12_findsReply_61 ?_
  exact wk_X12_findsReply_70 (g3 _ r')
end S33
