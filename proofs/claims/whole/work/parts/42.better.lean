/-! THE REFERENCE'S CALLS: better -/
section S42
variable {c n np nr : Nat} {K P B T C : Nat → Nat} {U : Nat → Nat → Nat} {V W : Nat → Int} {h h' : AH}
abbrev PT : Type := Nat × (Nat → Nat) × (Nat → Nat)
abbrev mPT (x : PT) (h : AH) : Prop := mP x.1 x.2.1 x.2.2 h
/-- told where there is room -/
def v_tl1 (x : PT) (p j v y : Nat) : PT := if v_pat x.1 x.2.1 p j v < 40 then (v_tn x.1 x.2.1 p j v, updN x.2.1 (v_pat x.1 x.2.1 p j v) (v_key p j v), updN x.2.2 (v_pat x.1 x.2.1 p j v) y) else x
/-- the first sets told -/
noncomputable def v_tla (c n : Nat) (K P B : Nat → Nat) (p : Nat) (y : Nat → Nat) : Nat → PT → PT
  | 0, x => x
  | t + 1, x => v_tl1 (v_tla c n K P B p y t x) p (v_sJ c n K P B p t) (v_sV c n K P B p t) (y t)
theorem sp_tells1 {x : PT} (t : mPT x h) {p j v y : Nat} (hp : p < 4) (hj : j < 8) (hv : v < 524288) (hy : y < 3) : ∃ h' r, XX true 2 200 0 [.ref 153, .int (nI p), .int (nI j), .int (nI v), .int (nI y), ax_junk] [] (h) (some (.int (r)), h') ∧ fr [(158, none), (153, some 6)] h h' ∧ mPT (v_tl1 x p j v y) h' := by
  unfold v_tl1
  by_cases q : v_pat x.1 x.2.1 p j v < 40
  · rw [if_pos q]
    obtain ⟨h', r, f, m⟩ := sp_tells t hp hj hv hy q
    exact ⟨h', _, r, f, m⟩
  · rw [if_neg q]
    exact ⟨h, _, sp_tells_no t hp hj hv hy q, fr.rfl', t⟩
/-- sets for which no plan is told -/
noncomputable abbrev v_new (c n : Nat) (K P B : Nat → Nat) (np : Nat) (T : Nat → Nat) (p t : Nat) : Bool := decide (v_pat np T p (v_sJ c n K P B p t) (v_sV c n K P B p t) = np)
/-- sets in which the plans choose otherwise -/
noncomputable abbrev v_oth (c n : Nat) (K P B : Nat → Nat) (ch : Nat → Nat → Nat → Nat) (y : Nat → Nat) (p t : Nat) : Bool := decide (ch p (v_sJ c n K P B p t) (v_sV c n K P B p t) ≠ y t)
abbrev frB : List (Nat × Option Nat) := (158, none) :: (153, some 6) :: frR
theorem sp_better_tell (s : mS c n K P B h) {p : Nat} (hp : p < 3) {y : Nat → Nat} (hy : ∀ t, t < v_sM c n K P B p → y t < 3) {o : Int32} {x0 : PT} : ∀ k t, t + k = v_sM c n K P B p → ∀ h1, fr frB h h1 → mSets c n K P B p h1 → (∀ t, t < v_sM c n K P B p → hI h1 165 t = nI (y t)) → mPT (v_tla c n K P B p y t x0) h1 → ∃ h', XX true 19 221 133 [.ref 153, .int (nI p), ax_junk, .int (o), .int (nI t)] [] (h1) ((some (.int o), h')) ∧ fr frB h h' ∧ mPT (v_tla c n K P B p y (v_sM c n K P B p) x0) h' := by
  have h6 := s.n6
  have m8 := v_sM_le s.1 p
  intro k
  induction k with
  | zero =>
    intro t ht h1 f z b m
    have e : t = v_sM c n K P B p := ht
    rw [e] at m
    refine ⟨h1, ?_, f, m⟩
    refine wb_X12_better_133 ?_
    rw [z.1, if_neg (nI_nlt (by omega) (by omega))]
  | succ k ih =>
    intro t ht h1 f z b m
    have si := v_set_is s.1 (p := p) (t := t) (by omega)
    have zt := z.2 t (by omega)
    obtain ⟨h2, r, r2, f2, m2⟩ := sp_tells1 m (p := p) (j := v_sJ c n K P B p t) (v := v_sV c n K P B p t) (y := y t) (by omega) (by omega) (v_sV_lt c n K P B p t) (hy t (by omega))
    obtain ⟨h', r', f', m'⟩ := ih (t + 1) (by omega) h2 (f.trans (f2.mono rfl)) (z.fr f2 (fun _ => rfl) (fun _ => rfl) rfl) (fun a ha => (f2.I rfl).trans (b a ha)) m2
    refine ⟨h', ?_, f', m'⟩
    refine wb_X12_better_133 ?_
    rw [z.1, if_pos (nI_lt (by omega) (by omega)), ix_nI (by omega), zt.1, zt.2, b t (by omega)]
    refine ⟨in_nI (by omega) (by decide), in_nI (by omega) (by decide), in_nI (by omega) (by decide), ?_⟩
    refine (cl_X12_better_165 rfl (by decide) (r2)).mpr ?_
    refine wb_X12_better_168 ?_
    rw [nI_s]
    exact wk_X12_better_133 r'
/-- what it answers; it tells only where isBetter -/
noncomputable def a_better (c n : Nat) (K P B : Nat → Nat) (ch : Nat → Nat → Nat → Nat) (U : Nat → Nat → Nat) (V W : Nat → Int) (nr np : Nat) (T : Nat → Nat) (p : Int32) : Int32 := if isPl p then (if muchP c n K P B (ix p) then -nI 5 else if np + cntN (v_new c n K P B np T (ix p)) (v_sM c n K P B (ix p)) ≤ 40 then nI (cntN (v_oth c n K P B ch (v_rep c n K P B ch U V W nr (ix p)).2 (ix p)) (v_sM c n K P B (ix p))) else -nI 4) else -nI 2
abbrev isBetter (c n : Nat) (K P B : Nat → Nat) (np : Nat) (T : Nat → Nat) (p : Int32) : Prop := isPl p ∧ ¬ muchP c n K P B (ix p) ∧ np + cntN (v_new c n K P B np T (ix p)) (v_sM c n K P B (ix p)) ≤ 40
theorem mo_better (s : mS c n K P B h) (t : mP np T C h) (r : mR nr U V h) (w : mW W h) (p : Int32) : (isBetter c n K P B np T p → ∃ h', XX true 19 221 0 [.ref 153, .int (p), ax_junk, ax_junk, ax_junk] [] (h) (some (.int (a_better c n K P B (v_chs np T C B) U V W nr np T p)), h') ∧ fr frB h h' ∧ mPT (v_tla c n K P B (ix p) (v_rep c n K P B (v_chs np T C B) U V W nr (ix p)).2 (v_sM c n K P B (ix p)) (np, T, C)) h') ∧ (¬ isBetter c n K P B np T p → ∃ h', XX true 19 221 0 [.ref 153, .int (p), ax_junk, ax_junk, ax_junk] [] (h) (some (.int (a_better c n K P B (v_chs np T C B) U V W nr np T p)), h') ∧ fr frR h h') := by
  have h6 := s.n6
  have h40 := t.1
  unfold a_better
  by_cases q : isPl p
  · obtain ⟨a, ha, rfl⟩ := q.ex
    have ea : ix (nI a) = a := ix_nI (by omega)
    unfold isBetter
    simp only [ea]
    have m8 := v_sM_le s.1 a
    obtain ⟨h1, r1, f1, z1⟩ := sp_isMuch s ha
    have s1 : mS c n K P B h1 := s.fr f1 rfl
    have pre : ∀ R, XX true 19 221 15 [.ref 153, .int (nI a), ax_junk, ax_junk, ax_junk] [.int (b2i (muchP c n K P B a))] (h1) (R) → XX true 19 221 0 [.ref 153, .int (nI a), ax_junk, ax_junk, ax_junk] [] h R := by
      intro R u
      refine wb_X12_better_0 ?_
      refine (cl_X12_better_1 rfl (by decide) (sp_isPlayer _ _)).mpr ?_
      refine wb_X12_better_4 ?_
      rw [b2i_t q, if_neg (by decide)]
      refine (cl_X12_better_12 rfl (by decide) (r1)).mpr ?_
      exact wk_X12_better_15 u
    by_cases q2 : muchP c n K P B a
    · refine ⟨fun u => absurd q2 u.2.1, fun _ => ⟨h1, pre _ ?_, f1.mono rfl⟩⟩
      refine wb_X12_better_15 ?_
      rw [b2i_t q2, if_neg (by decide), if_pos q, if_pos q2]
    · obtain ⟨h2, r2, f2, z2, b2⟩ := sp_findsReply s1 (t.fr f1 rfl) (w.fr f1 (fun _ => rfl)) (r.fr f1 (fun _ => rfl) rfl) ha (by omega)
      have f12 : fr frR h h2 := (f1.mono rfl).trans f2
      have s2 : mS c n K P B h2 := s1.fr f2 rfl
      have t2 : mP np T C h2 := t.fr f12 rfl
      have yt := v_rep_tr (nr := nr) (U := U) (V := V) (W := W) s.1 (v_chs np T C B) a
      have cn := cntN_le (v_new c n K P B np T a) (v_sM c n K P B a)
      have lp : ∀ k i, i + k = v_sM c n K P B a → ∀ R, XX true 19 221 33 [.ref 153, .int (nI a), .int (nI (cntN (v_new c n K P B np T a) (v_sM c n K P B a))), .int (nI (cntN (v_oth c n K P B (v_chs np T C B) (v_rep c n K P B (v_chs np T C B) U V W nr a).2 a) (v_sM c n K P B a))), .int (nI (v_sM c n K P B a))] [] (h2) (R) → XX true 19 221 33 [.ref 153, .int (nI a), .int (nI (cntN (v_new c n K P B np T a) i)), .int (nI (cntN (v_oth c n K P B (v_chs np T C B) (v_rep c n K P B (v_chs np T C B) U V W nr a).2 a) i)), .int (nI i)] [] (h2) (R) := by
        intro k
        induction k with
        | zero =>
          intro i hi R u
          have e : i = v_sM c n K P B a := hi
          rw [e]
          exact u
        | succ k ih =>
          intro i hi R u
          have si := v_set_is s.1 (p := a) (t := i) (by omega)
          have vl := v_sV_lt c n K P B a i
          have zt := z2.2 i (by omega)
          have yi := yt i (by omega)
          have b3 := v_setB s.1 (p := a) (t := i) (by omega)
          have nx := ih (i + 1) (by omega) R u
          have e1 : cntN (v_new c n K P B np T a) (i + 1) = cntN (v_new c n K P B np T a) i + (if v_new c n K P B np T a i = true then 1 else 0) := rfl
          have e2 : cntN (v_oth c n K P B (v_chs np T C B) (v_rep c n K P B (v_chs np T C B) U V W nr a).2 a) (i + 1) = cntN (v_oth c n K P B (v_chs np T C B) (v_rep c n K P B (v_chs np T C B) U V W nr a).2 a) i + (if v_oth c n K P B (v_chs np T C B) (v_rep c n K P B (v_chs np T C B) U V W nr a).2 a i = true then 1 else 0) := rfl
          rw [e1, e2] at nx
          have le := v_at_le (fun k => decide (T k = v_key a (v_sJ c n K P B a i) (v_sV c n K P B a i))) np 0
          have cl : v_chs np T C B a (v_sJ c n K P B a i) (v_sV c n K P B a i) < B (v_sJ c n K P B a i) := v_chs_lt (by omega)
          -- behind the first count
          have k71 : ∀ x : Nat, (if v_new c n K P B np T a i = true then 1 else 0) = x → XX true 19 221 71 [.ref 153, .int (nI a), ax_junk, .int (nI (cntN (v_oth c n K P B (v_chs np T C B) (v_rep c n K P B (v_chs np T C B) U V W nr a).2 a) i)), .int (nI i)] [.int (nI x), .int (nI (cntN (v_new c n K P B np T a) i))] (h2) (R) := by
            intro x hx
            rw [hx] at nx
            refine wb_X12_better_71 ?_
            rw [ix_nI (by omega), zt.1, zt.2, nI_add]
            refine ⟨in_nI (by omega) (by decide), in_nI (by omega) (by decide), ?_⟩
            refine (cl_X12_better_90 rfl (by decide) (sp_chosen s2 t2 (by omega) si.1 vl)).mpr ?_
            refine wb_X12_better_93 ?_
            rw [ix_nI (by omega), b2.2 i (by omega)]
            refine ⟨in_nI (by omega) (by decide), ?_⟩
            by_cases z : v_chs np T C B a (v_sJ c n K P B a i) (v_sV c n K P B a i) = (v_rep c n K P B (v_chs np T C B) U V W nr a).2 i
            · rw [if_neg (show ¬ v_oth c n K P B (v_chs np T C B) (v_rep c n K P B (v_chs np T C B) U V W nr a).2 a i = true from fun y => (of_decide_eq_true y) z)] at nx
              rw [if_pos (congrArg nI z)]
              refine wk_X12_better_108 ?_
              refine wb_X12_better_108 ?_
              rw [nI_add, nI_s]
              exact nx
            · rw [if_pos (show v_oth c n K P B (v_chs np T C B) (v_rep c n K P B (v_chs np T C B) U V W nr a).2 a i = true from decide_eq_true z)] at nx
              rw [if_neg (fun y => z ((nI_eq (by omega) (by omega)).mp y))]
              refine wk_X12_better_108 ?_
              refine wb_X12_better_108 ?_
              rw [nI_add, nI_s]
              exact nx
          refine wb_X12_better_33 ?_
          rw [z2.1, if_pos (nI_lt (by omega) (by omega)), ix_nI (by omega), zt.1, zt.2]
          refine ⟨in_nI (by omega) (by decide), in_nI (by omega) (by decide), ?_⟩
          refine (cl_X12_better_59 rfl (by decide) (sp_planAt t2 (by omega) (by omega) vl)).mpr ?_
          refine wb_X12_better_62 ?_
          by_cases z : v_pat np T a (v_sJ c n K P B a i) (v_sV c n K P B a i) = np
          · rw [if_pos z, if_pos rfl]
            exact wk_X12_better_71 (k71 1 (if_pos (decide_eq_true z)))
          · rw [if_neg z, if_neg (nI_ne1 (by have : v_pat np T a (v_sJ c n K P B a i) (v_sV c n K P B a i) ≤ 0 + np := le.2; omega))]
            exact wk_X12_better_71 (k71 0 (if_neg (fun y => z (of_decide_eq_true y))))
      have fin : ∀ R, XX true 19 221 33 [.ref 153, .int (nI a), .int (nI (cntN (v_new c n K P B np T a) (v_sM c n K P B a))), .int (nI (cntN (v_oth c n K P B (v_chs np T C B) (v_rep c n K P B (v_chs np T C B) U V W nr a).2 a) (v_sM c n K P B a))), .int (nI (v_sM c n K P B a))] [] (h2) (R) → XX true 19 221 15 [.ref 153, .int (nI a), ax_junk, ax_junk, ax_junk] [.int (b2i (muchP c n K P B a))] (h1) (R) := by
        intro R u
        refine wb_X12_better_15 ?_
        rw [b2i_f q2, if_pos rfl]
        refine (cl_X12_better_23 rfl (by decide) (r2)).mpr ?_
        refine wb_X12_better_26 ?_
        exact lp _ 0 (Nat.zero_add _) R u
      by_cases q3 : np + cntN (v_new c n K P B np T a) (v_sM c n K P B a) ≤ 40
      · refine ⟨fun _ => ?_, fun u => absurd ⟨q, q2, q3⟩ u⟩
        obtain ⟨h3, r3, f3, m3⟩ := sp_better_tell (o := nI (cntN (v_oth c n K P B (v_chs np T C B) (v_rep c n K P B (v_chs np T C B) U V W nr a).2 a) (v_sM c n K P B a))) (x0 := (np, T, C)) s ha (fun t ht => by have := yt t ht; have := v_setB s.1 ht; omega) _ 0 (Nat.zero_add _) h2 (f12.mono rfl) z2 b2.2 t2
        refine ⟨h3, pre _ (fin _ ?_), f3, m3⟩
        refine wb_X12_better_33 ?_
        rw [z2.1, if_neg (nI_nlt (Nat.le_refl _) (by omega)), t2.2.1, nI_add, if_pos (nI_le q3 (by omega)), if_pos q, if_neg q2, if_pos q3]
        exact wk_X12_better_133 r3
      · refine ⟨fun u => absurd u.2.2 q3, fun _ => ⟨h2, pre _ (fin _ ?_), f12⟩⟩
        refine wb_X12_better_33 ?_
        rw [z2.1, if_neg (nI_nlt (Nat.le_refl _) (by omega)), t2.2.1, nI_add, if_neg (fun y => q3 ((nI_leI (by omega) (by omega)).mp y)), if_pos q, if_neg q2, if_neg q3]
  · refine ⟨fun u => absurd u.1 q, fun _ => ⟨h, ?_, fr.rfl'⟩⟩
    rw [if_neg q]
    refine wb_X12_better_0 ?_
    refine (cl_X12_better_1 rfl (by decide) (sp_isPlayer _ _)).mpr ?_
    refine wb_X12_better_4 ?_
    rw [b2i_f q, if_pos rfl]
end S42
