/-! THE CLASS'S CALLS: replies -/
theorem v_at_eq {q : Nat → Bool} : ∀ {f k k0 : Nat}, k ≤ k0 → k0 < k + f → q k0 = true → (∀ i, k ≤ i → i < k0 → q i = false) → v_at q f k = k0
  | 0, k, k0, h1, h2, _, _ => absurd h2 (by omega)
  | f + 1, k, k0, h1, h2, h3, h4 => by
    show (if q k = true then k else v_at q f (k + 1)) = k0
    by_cases e : k = k0
    · rw [e, if_pos h3]
    · rw [h4 k (Nat.le_refl _) (by omega), if_neg (by decide)]
      exact v_at_eq (by omega) (by omega) h3 (fun i hi => h4 i (by omega))
theorem v_chs_tl1 {x : PT} {B : Nat → Nat} {p j v y j' v' : Nat} (ne : v_key p j' v' ≠ v_key p j v) : v_chs (v_tl1 x p j v y).1 (v_tl1 x p j v y).2.1 (v_tl1 x p j v y).2.2 B p j' v' = v_chs x.1 x.2.1 x.2.2 B p j' v' := by
  unfold v_tl1
  by_cases q : v_pat x.1 x.2.1 p j v < 40
  · rw [if_pos q]
    show v_chs (v_tn x.1 x.2.1 p j v) (updN x.2.1 (v_pat x.1 x.2.1 p j v) (v_key p j v)) (updN x.2.2 (v_pat x.1 x.2.1 p j v) y) B p j' v' = _
    obtain ⟨np, T, C⟩ := x
    show v_chs (v_tn np T p j v) (updN T (v_pat np T p j v) (v_key p j v)) (updN C (v_pat np T p j v) y) B p j' v' = v_chs np T C B p j' v'
    have le : 0 ≤ v_pat np T p j v ∧ v_pat np T p j v ≤ 0 + np := v_at_le (fun k => decide (T k = v_key p j v)) np 0
    have le' : 0 ≤ v_pat np T p j' v' ∧ v_pat np T p j' v' ≤ 0 + np := v_at_le (fun k => decide (T k = v_key p j' v')) np 0
    have tn : v_tn np T p j v = np ∨ v_tn np T p j v = np + 1 ∧ v_pat np T p j v = np := by
      show (if v_pat np T p j v = np then np + 1 else np) = np ∨ _
      by_cases z : v_pat np T p j v = np
      · exact Or.inr ⟨if_pos z, z⟩
      · exact Or.inl (if_neg z)
    have isk : v_pat np T p j v < np → T (v_pat np T p j v) = v_key p j v := fun z => of_decide_eq_true (v_at_is (fun k => decide (T k = v_key p j v)) np 0 (by rw [Nat.zero_add]; exact z))
    by_cases z : v_pat np T p j' v' = np
    · have no : ∀ i, i < np → T i ≠ v_key p j' v' := fun i hi => of_decide_eq_false (v_at_not (fun k => decide (T k = v_key p j' v')) np 0 i (Nat.zero_le _) (by
        have : i < v_pat np T p j' v' := by omega
        exact this))
      have e : v_pat (v_tn np T p j v) (updN T (v_pat np T p j v) (v_key p j v)) p j' v' = v_tn np T p j v := by
        have := v_at_none (q := fun k => decide (updN T (v_pat np T p j v) (v_key p j v) k = v_key p j' v')) (v_tn np T p j v) 0 (fun i hi => by
          by_cases e : i = v_pat np T p j v
          · rw [e, updN_s]
            exact decide_eq_false (fun w => ne w.symm)
          · rw [updN_o e]
            exact decide_eq_false (no i (by omega)))
        rw [Nat.zero_add] at this
        exact this
      unfold v_chs
      rw [if_pos (Or.inl e), if_pos (Or.inl z)]
    · have lt : v_pat np T p j' v' < np := by omega
      have is' : T (v_pat np T p j' v') = v_key p j' v' := of_decide_eq_true (v_at_is (fun k => decide (T k = v_key p j' v')) np 0 (by rw [Nat.zero_add]; exact lt))
      have dif : v_pat np T p j' v' ≠ v_pat np T p j v := by
        intro w
        have := isk (by omega)
        rw [← w, is'] at this
        exact ne this
      have e : v_pat (v_tn np T p j v) (updN T (v_pat np T p j v) (v_key p j v)) p j' v' = v_pat np T p j' v' := v_at_eq (Nat.zero_le _) (by omega) (by rw [updN_o dif]; exact decide_eq_true is') (fun i _ hi => by
        by_cases e : i = v_pat np T p j v
        · rw [e, updN_s]
          exact decide_eq_false (fun w => ne w.symm)
        · rw [updN_o e]
          exact v_at_not (fun k => decide (T k = v_key p j' v')) np 0 i (Nat.zero_le _) hi)
      unfold v_chs
      rw [e, updN_o dif]
      by_cases w : B j' ≤ C (v_pat np T p j' v')
      · rw [if_pos (Or.inr w), if_pos (Or.inr w)]
      · rw [if_neg (fun y => y.elim (fun y => by omega) w), if_neg (fun y => y.elim z w)]
  · rw [if_neg q]
section S72
variable {c n np nr : Nat} {K P B S T C TA AA : Nat → Nat} {U : Nat → Nat → Nat} {V W : Nat → Int} {h h' : AH}
theorem much9 {p : Nat} (s : okS c n K P B) (nm : v_much c n K P B p (v_sM c n K P B p) ≤ 729) : v_sM c n K P B p ≤ 9 := by
  apply Classical.byContradiction
  intro z
  have a := v_much_pr nm 10 (by omega)
  have st : ∀ t, t ≤ v_sM c n K P B p → 2 ^ t ≤ v_pr (fun t => B (v_sJ c n K P B p t)) t := by
    intro t
    induction t with
    | zero => intro _; exact Nat.le_refl _
    | succ t ih =>
      intro ht
      have b := v_setB s (p := p) (t := t) (by omega)
      show 2 ^ (t + 1) ≤ v_pr (fun t => B (v_sJ c n K P B p t)) t * B (v_sJ c n K P B p t)
      rw [Nat.pow_succ]
      exact Nat.mul_le_mul (ih (by omega)) (by omega)
  have b := st 10 (by omega)
  rw [← a] at b
  have c1 : v_much c n K P B p 10 ≤ 729 := by
    by_cases y : v_much c n K P B p 10 ≤ 729
    · exact y
    · have := v_much_stay y (v_sM c n K P B p - 10)
      rw [show 10 + (v_sM c n K P B p - 10) = v_sM c n K P B p by omega] at this
      omega
  have : (2 : Nat) ^ 10 = 1024 := by decide
  omega
theorem sp_isMuchFor (s : tS 0 c n K P B S h) {p : Nat} (hp : p < 3) : ∃ h', XX true 5 64 0 [.ref 64, .int (nI p), ax_junk, ax_junk] [] (h) (some (.int (b2i (729 < v_much c n K P B p (v_sM c n K P B p)))), h') ∧ fr cfG h h' ∧ cSets c n K P B p h' := by
  have m8 := v_sM_le s.ok p
  have h6 := s.n6
  obtain ⟨h1, r1, f1, z1⟩ := sp_gather s hp
  have s1 : tS 0 c n K P B S h1 := s.fr f1 rfl rfl
  have lp : ∀ k t, t + k = v_sM c n K P B p → v_much c n K P B p t ≤ 729 → XX true 5 64 19 [.ref 64, ax_junk, .int (nI (v_much c n K P B p t)), .int (nI t)] [] (h1) ((some (.int (b2i (729 < v_much c n K P B p (v_sM c n K P B p)))), h1)) := by
    intro k
    induction k with
    | zero =>
      intro t ht le
      have e : t = v_sM c n K P B p := ht
      refine wb_X11_isMuchFor_19 ?_
      rw [z1.1, if_neg (nI_nlt (by omega) (by omega)), b2i_f (by rw [← e]; omega)]
    | succ k ih =>
      intro t ht le
      have zt := z1.2 t (by omega)
      have si := v_set_is s.ok (p := p) (t := t) (by omega)
      have oc := chc_opt s.ok si.1 si.2.1.1
      have e : v_much c n K P B p (t + 1) = v_much c n K P B p t * B (v_sJ c n K P B p t) := by
        show (if v_much c n K P B p t ≤ 729 then _ else _) = _
        rw [if_pos le]
      have ml := v_much_le s.ok (p := p) (t + 1) (by omega)
      refine wb_X11_isMuchFor_19 ?_
      rw [z1.1, if_pos (nI_lt (by omega) (by omega)), ix_nI (by omega), zt.1, ix_nI (by omega), s1.fan _ si.1, oc.1, nI_mulI, ← e]
      refine ⟨in_nI (by omega) (by decide), in_nI (by omega) (by decide), ?_⟩
      by_cases q : v_much c n K P B p (t + 1) ≤ 729
      · rw [if_pos (nI_le q (by omega)), nI_s]
        exact ih (t + 1) (by omega) q
      · have st := v_much_stay q (v_sM c n K P B p - (t + 1))
        rw [show t + 1 + (v_sM c n K P B p - (t + 1)) = v_sM c n K P B p by omega] at st
        rw [if_neg (fun z => q ((nI_leI (by omega) (by omega)).mp z)), b2i_t (by rw [st]; omega)]
  refine ⟨h1, ?_, f1, z1⟩
  refine wb_X11_isMuchFor_0 ?_
  refine cl_X11_isMuchFor_12 rfl (by decide) (r1) ?_
  refine wb_X11_isMuchFor_15 ?_
  exact lp (v_sM c n K P B p) 0 (by omega) (by show 1 ≤ 729; decide)
abbrev cfB : List (Nat × Option Nat) := [(86, none), (130, none), (131, none), (129, some 0), (129, some 1), (129, some 2), (132, none), (133, none), (129, some 5), (129, some 6), (134, none), (135, none)]
theorem sp_best (s : tS 0 c n K P B S h) (t : cP 0 np T C h) (w : cW 0 W h) (r : cR 0 nr U V TA AA h) {A p : Nat} (pl : cPl A h) (hp : p < 3) (z : cSets c n K P B p h) (nm : v_much c n K P B p (v_sM c n K P B p) ≤ 729) : ∃ h' A', XX true 6 65 0 [.ref 129, .ref 65, .ref 123, .int (nI p), ax_junk, ax_junk, ax_junk, ax_junk] [] (h) (some (.int (iI (v_rep c n K P B (v_chs np T C B) U V W nr p).1)), h') ∧ fr cfB h h' ∧ cPl A' h' ∧ ∀ t, t < v_sM c n K P B p → hI h' 135 t = nI ((v_rep c n K P B (v_chs np T C B) U V W nr p).2 t) := by
  have h6 := s.n6
  have al := s.al
  have hM := much9 s.ok nm
  have prle : v_pr (fun t => B (v_sJ c n K P B p t)) (v_sM c n K P B p) ≤ 729 := by rw [← v_much_pr nm _ (Nat.le_refl _)]; exact nm
  obtain ⟨h1, A', m, f, r1, f1, fo, en⟩ := sp_follow s t (but := p) (b := nI p) (Nat.le_refl n) (fun x hx => nI_eq (by omega) (by omega)) pl
  have ml := fl_len s.ok (Nat.le_refl n) en
  have s1 : tS 0 c n K P B S h1 := s.fr f1 rfl rfl
  obtain ⟨h2, cd, X, Y, r2, f2, co, hcd, wit, sm, mk⟩ := sp_gatherCourses s1 (cW_fx w f1.fx al (by decide) (fun _ => rfl)) (cR_fx r f1.fx al (by decide) rfl rfl rfl) hp (cSets_fr z f1 rfl) hM fo ml (fun t ht => (en.2.1 t ht).1)
  have f12 : fr cfB h h2 := (f1.mono rfl).trans (f2.mono rfl)
  have a2 := fo.1.1
  have pl2 : cPl A' h2 := cPl_fr fo.1 f2 rfl rfl
  -- what a try sums to
  have sumS : ∀ tr, sumZ (fun k => if v_tri tr (v_mk K P p n) (X k) = true then Y k else 0) cd = v_trS c n K P B (v_chs np T C B) U V W nr p tr := by
    intro tr
    rw [sm (fun x => v_tri tr (v_mk K P p n) x)]
    have e1 : sumZ (fun t => if v_tri tr (v_mk K P p n) (v_crs c n K P B p (f t) n) = true then v_pay U V W c n (v_what c K B n (f t)) p nr else 0) m = sumZ (fun t => (fun w => if v_mt c n K P B p w tr n = true then v_pay U V W c n (v_what c K B n w) p nr else 0) (f t)) m := sumZ_congr m (fun t ht => by rw [v_tri_crs s.ok (en.2.1 t ht).1 hM tr n (Nat.le_refl _)])
    rw [e1, enumS.sum (pl := fun w => v_pl K P (v_chs np T C B) p (v_what c K B n w) n) (fun w => if v_mt c n K P B p w tr n = true then v_pay U V W c n (v_what c K B n w) p nr else 0) en]
    rfl
  have bd := fun tr => v_trS_le (nr := nr) (U := U) (V := V) (W := W) s.ok r.2.1.1 (fun i hi => (w i hi).2) (v_chs np T C B) p tr
  have le : ∀ x y : Int, -30000000 ≤ x → x ≤ 30000000 → -30000000 ≤ y → y ≤ 30000000 → (iI x ≤ iI y ↔ x ≤ y) := by
    intro x y a1 a2 a3 a4
    rw [Int32.le_iff_toInt_le, iI_toInt (by omega) (by omega), iI_toInt (by omega) (by omega)]
  have b3 : ∀ t, t < v_sM c n K P B p → B (v_sJ c n K P B p t) = 2 ∨ B (v_sJ c n K P B p t) = 3 := fun t ht => v_setB s.ok ht
  have sumR : ∀ h3, fr [(134, none), (135, none)] h2 h3 → ∀ tr, cTr (v_sM c n K P B p) tr h3 → (∀ t, t < v_sM c n K P B p → tr t < B (v_sJ c n K P B p t)) → XX true 2 69 0 [.ref 129, ax_junk, ax_junk] [] (h3) (some (.int (iI (v_trS c n K P B (v_chs np T C B) U V W nr p tr))), h3) := by
    intro h3 f3 tr t3 v3
    have g := sp_sumTried s.ok (p := p) (h := h3) hM (X := X) (Y := Y) ⟨(f3.I rfl).trans co.1, fun k hk => ⟨(f3.L rfl).trans (co.2 k hk).1, (f3.I rfl).trans (co.2 k hk).2⟩⟩ hcd wit t3 (fun t ht => by have := v3 t ht; have := b3 t ht; omega) ((f3.I rfl).trans mk)
    rw [sumS tr] at g
    exact g
  -- the choices copied
  have copy : ∀ k i, i + k = 9 → ∀ h3, fr [(134, none), (135, none)] h2 h3 → (∀ t, t < i → hI h3 135 t = hI h3 134 t) → ∃ h4, fr [(134, none), (135, none)] h2 h4 ∧ (∀ t, hI h4 134 t = hI h3 134 t) ∧ (∀ t, t < 9 → hI h4 135 t = hI h4 134 t) ∧ ∀ x v R, XX true 6 65 110 [.ref 129, .ref 65, .ref 123, ax_junk, .int (x), .int (v), ax_junk, ax_junk] [] (h4) (R) → XX true 6 65 83 [.ref 129, .ref 65, .ref 123, ax_junk, .int (x), .int (v), ax_junk, .int (nI i)] [] (h3) (R) := by
    intro k
    induction k with
    | zero =>
      intro i hi h3 f3 e
      obtain rfl : i = 9 := hi
      refine ⟨h3, f3, fun _ => rfl, e, fun x v R u => ?_⟩
      refine wb_X4_best_83 ?_
      rw [if_neg (by decide)]
      exact u
    | succ k ih =>
      intro i hi h3 f3 e
      obtain ⟨h4, a, b, d, u4⟩ := ih (i + 1) (by omega) (ax_wr h3 135 i (.int (hI h3 134 i))) (f3.wr' (by simp [inS])) (fun t ht => by
        rw [wr_Ia (show 134 ≠ 135 by decide)]
        by_cases y : t = i
        · rw [y, wr_I]
        · rw [wr_Ij y]
          exact e t (by omega))
      refine ⟨h4, a, fun t => by rw [b t, wr_Ia (by decide)], d, fun x v R u => ?_⟩
      refine wb_X4_best_83 ?_
      rw [if_pos (nI_lt (by omega) (by omega)), ix_nI (by omega), nI_s]
      exact ⟨in_nI (by omega) (by decide), in_nI (by omega) (by decide), u4 x v R u⟩
  -- all tries
  have go : ∀ fu tr x bt h3 i, fr [(134, none), (135, none)] h2 h3 → cTr (v_sM c n K P B p) tr h3 → (∀ t, t < v_sM c n K P B p → tr t < B (v_sJ c n K P B p t)) → (∀ t, t < v_sM c n K P B p → hI h3 135 t = nI (bt t)) → -30000000 ≤ x → x ≤ 30000000 → v_rk (fun t => B (v_sJ c n K P B p t)) (v_sM c n K P B p) tr = i → 729 ≤ i + fu → ∃ h', XX true 6 65 110 [.ref 129, .ref 65, .ref 123, ax_junk, .int (iI x), .int (nI i), ax_junk, ax_junk] [] (h3) ((some (.int (iI (v_go (v_trS c n K P B (v_chs np T C B) U V W nr p) (fun t => B (v_sJ c n K P B p t)) (v_sM c n K P B p) fu tr x bt).1)), h')) ∧ fr [(134, none), (135, none)] h2 h' ∧ ∀ t, t < v_sM c n K P B p → hI h' 135 t = nI ((v_go (v_trS c n K P B (v_chs np T C B) U V W nr p) (fun t => B (v_sJ c n K P B p t)) (v_sM c n K P B p) fu tr x bt).2 t) := by
    intro fu
    induction fu with
    | zero =>
      intro tr x bt h3 i f3 t3 v3 e3 x1 x2 rk hfu
      have := v_rk_lt (fun t => B (v_sJ c n K P B p t)) (v_sM c n K P B p) tr v3
      omega
    | succ fu ih =>
      intro tr x bt h3 i f3 t3 v3 e3 x1 x2 rk hfu
      have f13 := f12.trans (f3.mono rfl)
      have rl := v_rk_lt (fun t => B (v_sJ c n K P B p t)) (v_sM c n K P B p) tr v3
      obtain ⟨h4, r4, f4, t4⟩ := sp_tryNext (s.fr f13 rfl rfl) (cSets_fr z f13 rfl) hM t3 v3
      have f34 := f3.trans (f4.mono rfl)
      have e4 : ∀ t, t < v_sM c n K P B p → hI h4 135 t = nI (bt t) := fun t ht => (f4.I rfl).trans (e3 t ht)
      have rk2 := v_nxt_rk (fun t => B (v_sJ c n K P B p t)) (v_sM c n K P B p) tr v3
      have v4 := v_nxt_lt (fun t => B (v_sJ c n K P B p t)) (v_sM c n K P B p) tr v3
      unfold v_go
      generalize v_nxt (fun t => B (v_sJ c n K P B p t)) (v_sM c n K P B p) tr = nx at *
      obtain ⟨tr', b⟩ := nx
      by_cases q : b = true
      · subst q
        rw [if_pos rfl]
        have rk3 : v_rk (fun t => B (v_sJ c n K P B p t)) (v_sM c n K P B p) tr' = i + 1 := by rw [← rk]; exact rk2.1 rfl
        have rl2 := v_rk_lt (fun t => B (v_sJ c n K P B p t)) (v_sM c n K P B p) tr' v4
        have b' := bd tr'
        have pre : ∀ R, XX true 6 65 62 [.ref 129, .ref 65, .ref 123, ax_junk, .int (iI x), .int (nI (i + 1)), ax_junk, ax_junk] [.int (iI (v_trS c n K P B (v_chs np T C B) U V W nr p tr'))] (h4) (R) → XX true 6 65 110 [.ref 129, .ref 65, .ref 123, ax_junk, .int (iI x), .int (nI i), ax_junk, ax_junk] [] (h3) (R) := by
          intro R u
          refine wb_X4_best_110 ?_
          refine cl_X4_best_116 rfl (by decide) (r4) ?_
          refine wb_X4_best_119 ?_
          rw [b2i_t rfl, if_neg (by decide), nI_s]
          refine wb_X4_best_50 ?_
          rw [if_pos (nI_lt (by omega) (by omega))]
          refine cl_X4_best_59 rfl (by decide) (sumR h4 f34 tr' t4 v4) ?_
          exact u
        by_cases y : x < v_trS c n K P B (v_chs np T C B) U V W nr p tr'
        · rw [if_pos y]
          obtain ⟨h5, f5, c1, c2, u5⟩ := copy 9 0 rfl h4 f34 (fun t ht => absurd ht (Nat.not_lt_zero _))
          have t5 : cTr (v_sM c n K P B p) tr' h5 := fun t ht => (c1 t).trans (t4 t ht)
          obtain ⟨h', x', y'⟩ := ih tr' (v_trS c n K P B (v_chs np T C B) U V W nr p tr') tr' h5 (i + 1) f5 t5 v4 (fun t ht => (c2 t (by omega)).trans (t5 t ht)) b'.1 b'.2 rk3 (by omega)
          refine ⟨h', pre _ ?_, y'⟩
          refine wb_X4_best_62 ?_
          rw [if_neg (nI_z (by omega) (by omega)), if_neg (fun u => by have := (le _ _ b'.1 b'.2 x1 x2).mp u; omega)]
          refine wb_X4_best_76 ?_
          exact u5 _ _ _ x'
        · rw [if_neg y]
          obtain ⟨h', x', y'⟩ := ih tr' x bt h4 (i + 1) f34 t4 v4 e4 x1 x2 rk3 (by omega)
          refine ⟨h', pre _ ?_, y'⟩
          refine wb_X4_best_62 ?_
          rw [if_neg (nI_z (by omega) (by omega)), if_pos ((le _ _ b'.1 b'.2 x1 x2).mpr (by omega))]
          exact x'
      · rw [if_neg q]
        refine ⟨h4, ?_, f34, e4⟩
        refine wb_X4_best_110 ?_
        refine cl_X4_best_116 rfl (by decide) (r4) ?_
        refine wb_X4_best_119 ?_
        rw [b2i_f q, if_pos rfl]
  -- all zero at first
  have l0 : ∀ k i, i + k = 63 → ∀ h3, fr [(134, none), (135, none)] h2 h3 → (∀ t, t < i → hI h3 134 t = nI 0) → ∃ h4, fr [(134, none), (135, none)] h2 h4 ∧ (∀ t, t < 63 → hI h4 134 t = nI 0) ∧ ∀ R, XX true 6 65 50 [.ref 129, .ref 65, .ref 123, ax_junk, .int (nI 0), .int (nI 0), ax_junk, ax_junk] [] (h4) (R) → XX true 6 65 23 [.ref 129, .ref 65, .ref 123, ax_junk, .int (nI i), ax_junk, ax_junk, ax_junk] [] (h3) (R) := by
    intro k
    induction k with
    | zero =>
      intro i hi h3 f3 e
      obtain rfl : i = 63 := hi
      refine ⟨h3, f3, e, fun R u => ?_⟩
      refine wb_X4_best_23 ?_
      rw [if_neg (by decide)]
      exact u
    | succ k ih =>
      intro i hi h3 f3 e
      obtain ⟨h4, a, b, u4⟩ := ih (i + 1) (by omega) (ax_wr h3 134 i (.int (nI 0))) (f3.wr' (by simp [inS])) (fun t ht => by
        by_cases y : t = i
        · rw [y, wr_I]
        · rw [wr_Ij y]
          exact e t (by omega))
      refine ⟨h4, a, b, fun R u => ?_⟩
      refine wb_X4_best_23 ?_
      rw [if_pos (nI_lt (by omega) (by omega)), ix_nI (by omega), nI_s]
      exact ⟨in_nI (by omega) (by decide), u4 R u⟩
  obtain ⟨h3, f3, e3, u3⟩ := l0 63 0 rfl h2 fr.rfl' (fun t ht => absurd ht (Nat.not_lt_zero _))
  have v0 : ∀ t, t < v_sM c n K P B p → (fun _ : Nat => 0) t < B (v_sJ c n K P B p t) := fun t ht => by have := b3 t ht; show 0 < _; omega
  have t3 : cTr (v_sM c n K P B p) (fun _ => 0) h3 := fun t ht => e3 t (by omega)
  have b0 := bd (fun _ => 0)
  obtain ⟨h4, f4, c1, c2, u4⟩ := copy 9 0 rfl h3 f3 (fun t ht => absurd ht (Nat.not_lt_zero _))
  have t4 : cTr (v_sM c n K P B p) (fun _ => 0) h4 := fun t ht => (c1 t).trans (t3 t ht)
  have rk0 : ∀ m, v_rk (fun t => B (v_sJ c n K P B p t)) m (fun _ => 0) = 0 := by
    intro m
    induction m with
    | zero => rfl
    | succ m ih =>
      show v_rk _ m _ * _ + 0 = 0
      rw [ih, Nat.zero_mul]
  obtain ⟨h', x', g', e'⟩ := go 800 (fun _ => 0) (v_trS c n K P B (v_chs np T C B) U V W nr p fun _ => 0) (fun _ => 0) h4 0 f4 t4 v0 (fun t ht => (c2 t (by omega)).trans (t4 t ht)) b0.1 b0.2 (rk0 _) (by decide)
  refine ⟨h', A', ?_, f12.trans (g'.mono rfl), cPl_fr pl2 g' rfl rfl, e'⟩
  refine wb_X4_best_0 ?_
  rw [s.nn]
  refine cl_X4_best_10 rfl (by decide) (r1) ?_
  refine wb_X4_best_13 ?_
  refine cl_X4_best_17 rfl (by decide) (r2) ?_
  refine wb_X4_best_20 ?_
  refine u3 _ ?_
  refine wb_X4_best_50 ?_
  rw [if_pos (by decide)]
  refine cl_X4_best_59 rfl (by decide) (sumR h3 f3 _ t3 v0) ?_
  refine wb_X4_best_62 ?_
  rw [if_pos rfl]
  refine wb_X4_best_76 ?_
  exact u4 _ _ _ x'
abbrev cfRp : List (Nat × Option Nat) := cfG ++ cfB
theorem co_reply (s : tS 0 c n K P B S h) (t : cP 0 np T C h) (r : cR 0 nr U V TA AA h) (w : cW 0 W h) {A : Nat} (pl : cPl A h) (p part : Int32) : ∃ h' A', XX true 7 63 0 [.ref 64, .int (p), .int (part)] [] (h) (some (.long (a_reply c n K P B (v_chs np T C B) U V W nr p part)), h') ∧ fr cfRp h h' ∧ cPl A' h' := by
  have h6 := s.n6
  have al := s.al
  have wl := v_ways_le s.ok (Nat.le_refl n)
  unfold a_reply
  by_cases q : isPl p ∧ isPt part
  · obtain ⟨q0, q1⟩ := id q
    obtain ⟨a, ha, rfl⟩ := q0.ex
    rw [if_pos q, ix_nI (by omega)]
    obtain ⟨h1, r1, f1, z1⟩ := sp_isMuchFor s ha
    have s1 : tS 0 c n K P B S h1 := s.fr f1 rfl rfl
    have pl1 : cPl A h1 := cPl_fr pl f1 rfl rfl
    have pre : ∀ R, XX true 7 63 23 [.ref 64, .int (nI a), .int (part)] [.int (b2i (729 < v_much c n K P B a (v_sM c n K P B a)))] (h1) (R) → XX true 7 63 0 [.ref 64, .int (nI a), .int (part)] [] (h) (R) := by
      intro R u
      refine wb_X11_reply_0 ?_
      refine cl_X11_reply_1 rfl (by decide) (cp_isPlayer _ _) ?_
      refine wb_X11_reply_4 ?_
      rw [b2i_t q0, if_neg (by decide)]
      refine cl_X11_reply_8 rfl (by decide) (cp_isPart _ _) ?_
      refine wb_X11_reply_11 ?_
      rw [b2i_t q1, if_neg (by decide)]
      refine cl_X11_reply_20 rfl (by decide) (r1) ?_
      exact u
    by_cases q2 : 729 < v_much c n K P B a (v_sM c n K P B a)
    · refine ⟨h1, A, pre _ ?_, f1.mono rfl, pl1⟩
      refine wb_X11_reply_23 ?_
      rw [b2i_t q2, if_neg (by decide), if_pos q2, no_5]
    · obtain ⟨h2, A', r2, f2, pl2, _⟩ := sp_best s1 (cP_fr t f1 rfl) (cW_fx w f1.fx al (by decide) (fun _ => rfl)) (cR_fx r f1.fx al (by decide) rfl rfl rfl) pl1 ha z1 (by omega)
      have s2 : tS 0 c n K P B S h2 := s1.fr f2 rfl rfl
      have rb := v_rep_le (nr := nr) (U := U) (V := V) (W := W) s.ok r.2.1.1 (fun i hi => (w i hi).2) (v_chs np T C B) a
      have cb := v_chn_le s.ok n (Nat.le_refl _)
      have sh := cp_share (A := (v_rep c n K P B (v_chs np T C B) U V W nr a).1) (D := v_chn c K B n) (by omega) (by omega) (by omega) (by omega) part h2
      refine ⟨h2, A', pre _ ?_, (f1.mono rfl).trans (f2.mono rfl), pl2⟩
      refine wb_X11_reply_23 ?_
      rw [b2i_f q2, if_pos rfl, if_neg q2]
      refine cl_X11_reply_43 rfl (by decide) (r2) ?_
      refine wb_X11_reply_46 ?_
      rw [s2.nn, iI_l (by omega) (by omega)]
      refine cl_X11_reply_64 rfl (by decide) (sp_chances s2) ?_
      refine wb_X11_reply_67 ?_
      rw [nI_l (by omega)]
      refine cl_X11_reply_69 rfl (by decide) (sh) ?_
      refine wb_X11_reply_72 ?_
      rfl
  · rw [if_neg q]
    refine ⟨h, A, ?_, fr.rfl', pl⟩
    refine wb_X11_reply_0 ?_
    refine cl_X11_reply_1 rfl (by decide) (cp_isPlayer _ _) ?_
    refine wb_X11_reply_4 ?_
    by_cases q0 : isPl p
    · rw [b2i_t q0, if_neg (by decide)]
      refine cl_X11_reply_8 rfl (by decide) (cp_isPart _ _) ?_
      refine wb_X11_reply_11 ?_
      rw [b2i_f (fun z => q ⟨q0, z⟩), if_pos rfl, no_2]
    · rw [b2i_f q0, if_pos rfl, no_2]
end S72
