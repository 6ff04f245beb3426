/-! REPLIES: trying all -/
section S32
variable {c n np nr : Nat} {K P B T C : Nat → Nat} {U : Nat → Nat → Nat} {V W : Nat → Int} {h h' : AH}
noncomputable abbrev v_mtf (c n : Nat) (K P B : Nat → Nat) (U : Nat → Nat → Nat) (V W : Nat → Int) (nr p : Nat) (tr : Nat → Nat) (w : Nat) : Int := if v_mt c n K P B p w tr n = true then v_pay U V W c n (v_what c K B n w) p nr else 0
/-- the choices tried lie there -/
def mTr (c n : Nat) (K P B : Nat → Nat) (p : Nat) (tr : Nat → Nat) (h : AH) : Prop := ∀ t, t < v_sM c n K P B p → hI h 164 t = nI (tr t)
theorem sp_triedSum (s : mS c n K P B h) (w : ∀ i, i < 5 → -9 ≤ W i ∧ W i ≤ 9) (r : okR nr U V) {p m : Nat} {f : Nat → Nat} (hm : m ≤ 1620) (pl : mPl c n K P B U V W nr p m f h) {tr : Nat → Nat} (ht : mTr c n K P B p tr h) (hb : ∀ t, t < v_sM c n K P B p → tr t < 3) : XX true 1 219 0 [.ref 153, ax_junk, ax_junk, ax_junk, ax_junk, ax_junk, ax_junk] [] (h) (some (.long (lI (sumZ (fun k => v_mtf c n K P B U V W nr p tr (f k)) m))), h) := by
  have h6 := s.n6
  have m8 := v_sM_le s.1 p
  have lp : ∀ k i, i + k = m → XX true 1 219 4 [.ref 153, .long (lI (sumZ (fun k => v_mtf c n K P B U V W nr p tr (f k)) i)), ax_junk, .int (nI i), ax_junk, ax_junk, ax_junk] [] (h) ((some (.long (lI (sumZ (fun k => v_mtf c n K P B U V W nr p tr (f k)) m))), h)) := by
    intro k
    induction k with
    | zero =>
      intro i hi
      obtain rfl : i = m := hi
      refine wb_X12_triedSum_4 ?_
      rw [pl.1, if_neg (nI_nlt (Nat.le_refl _) (by omega))]
    | succ k ih =>
      intro i hi
      obtain ⟨fl, pp, row⟩ := pl.2 i (by omega)
      have nx := ih (i + 1) (by omega)
      have e1 : sumZ (fun k => v_mtf c n K P B U V W nr p tr (f k)) (i + 1) = sumZ (fun k => v_mtf c n K P B U V W nr p tr (f k)) i + v_mtf c n K P B U V W nr p tr (f i) := rfl
      rw [e1] at nx
      have fin : XX true 1 219 87 [.ref 153, .long (lI (sumZ (fun k => v_mtf c n K P B U V W nr p tr (f k)) i)), ax_junk, .int (nI i), .int (b2i (v_mt c n K P B p (f i) tr n = true)), ax_junk, ax_junk] [] (h) ((some (.long (lI (sumZ (fun k => v_mtf c n K P B U V W nr p tr (f k)) m))), h)) := by
        unfold v_mtf at nx
        refine wb_X12_triedSum_87 ?_
        by_cases q : v_mt c n K P B p (f i) tr n = true
        · rw [if_pos q] at nx
          have pb := v_pay_le (n := n) (c := c) (e := v_what c K B n (f i)) r w (fun a ha => v_what_lt s.1 (Nat.le_refl _) (f i) ha) s.c5.2 p nr (Nat.le_refl _)
          have h8 := r.1
          rw [b2i_t q, if_neg (by decide), ix_nI (by omega), pp, iI_l (by omega) (by omega)]
          refine ⟨in_nI (by omega) (by decide), ?_⟩
          refine wb_X12_triedSum_104 ?_
          rw [lI_add, nI_s]
          exact wk_X12_triedSum_4 nx
        · rw [if_neg q] at nx
          rw [b2i_f q, if_pos rfl, lN_lI 0]
          refine wb_X12_triedSum_104 ?_
          rw [lI_add, nI_s]
          exact wk_X12_triedSum_4 nx
      have inn : ∀ k a, a + k = n → XX true 1 219 18 [.ref 153, .long (lI (sumZ (fun k => v_mtf c n K P B U V W nr p tr (f k)) i)), ax_junk, .int (nI i), .int (b2i (v_mt c n K P B p (f i) tr a = true)), .int (nI a), ax_junk] [] (h) ((some (.long (lI (sumZ (fun k => v_mtf c n K P B U V W nr p tr (f k)) m))), h)) := by
        intro k
        induction k with
        | zero =>
          intro a ha
          obtain rfl : a = n := ha
          refine wb_X12_triedSum_18 ?_
          rw [s.nn, if_neg (nI_nlt (Nat.le_refl _) (by omega))]
          exact wk_X12_triedSum_87 fin
        | succ k ih2 =>
          intro a ha
          have ra := row a (by omega)
          have wl := v_what_lt s.1 (Nat.le_refl n) (f i) (i := a) (by omega)
          have e2 : v_mt c n K P B p (f i) tr (a + 1) = (v_mt c n K P B p (f i) tr a && (decide (¬ picks K P p a) || decide (tr (v_wix c n K P B p (f i) a) = v_what c K B n (f i) a))) := rfl
          have nx2 := ih2 (a + 1) (by omega)
          rw [e2] at nx2
          refine wb_X12_triedSum_18 ?_
          rw [s.nn, if_pos (nI_lt (by omega) (by omega))]
          by_cases q : v_mt c n K P B p (f i) tr a = true
          · rw [b2i_t q, if_neg (by decide), nI_mulI, nI_add, ix_nI (by omega), ra.2.2]
            refine ⟨in_nI (by omega) (by decide), ?_⟩
            rw [q, Bool.true_and] at nx2
            have go : ∀ x : Bool, (decide (¬ picks K P p a) || decide (tr (v_wix c n K P B p (f i) a) = v_what c K B n (f i) a)) = x → XX true 1 219 79 [.ref 153, .long (lI (sumZ (fun k => v_mtf c n K P B U V W nr p tr (f k)) i)), ax_junk, .int (nI i), ax_junk, .int (nI a), ax_junk] [.int ((if x = true then nI 1 else nI 0))] (h) ((some (.long (lI (sumZ (fun k => v_mtf c n K P B U V W nr p tr (f k)) m))), h)) := by
              intro x hx
              rw [hx] at nx2
              refine wb_X12_triedSum_79 ?_
              rw [nI_s]
              exact wk_X12_triedSum_18 nx2
            have g1 : (decide (¬ picks K P p a) || decide (tr (v_wix c n K P B p (f i) a) = v_what c K B n (f i) a)) = true → XX true 1 219 74 [.ref 153, .long (lI (sumZ (fun k => v_mtf c n K P B U V W nr p tr (f k)) i)), ax_junk, .int (nI i), ax_junk, .int (nI a), ax_junk] [] (h) ((some (.long (lI (sumZ (fun k => v_mtf c n K P B U V W nr p tr (f k)) m))), h)) := by
              intro u
              have g := go true u
              rw [if_pos rfl] at g
              refine wb_X12_triedSum_74 ?_
              exact g
            by_cases qp : picks K P p a
            · have wi := v_wix_is s.1 (p := p) (i := a) (by omega) qp fl
              have tb := hb _ wi.1
              rw [ra.1 qp, if_neg (nI_ne1 (by omega)), ix_nI (by omega), ht _ wi.1]
              refine ⟨in_nI (by omega) (by decide), in_nI (by omega) (by decide), ?_⟩
              by_cases qe : tr (v_wix c n K P B p (f i) a) = v_what c K B n (f i) a
              · rw [if_pos (congrArg nI qe)]
                exact wk_X12_triedSum_74 (g1 (by rw [decide_eq_true qe]; simp))
              · rw [if_neg (fun u => qe ((nI_eq (by omega) (by omega)).mp u))]
                have g := go false (by rw [decide_eq_false qe, decide_eq_false (fun u => u qp)]; rfl)
                rw [if_neg (by decide)] at g
                exact wk_X12_triedSum_79 g
            · rw [ra.2.1 qp, if_pos rfl]
              exact wk_X12_triedSum_74 (g1 (by rw [decide_eq_true qp]; rfl))
          · have q' : v_mt c n K P B p (f i) tr a = false := Bool.eq_false_iff.mpr q
            rw [b2i_f q, if_pos rfl]
            have z := v_mt_down q' (k + 1)
            rw [ha] at z
            rw [b2i_f (show ¬ v_mt c n K P B p (f i) tr n = true by rw [z]; decide)] at fin
            exact wk_X12_triedSum_87 fin
      refine wb_X12_triedSum_4 ?_
      rw [pl.1, if_pos (nI_lt (by omega) (by omega))]
      have g0 := inn n 0 (by omega)
      rw [show b2i (v_mt c n K P B p (f i) tr 0 = true) = nI 1 from b2i_t rfl] at g0
      exact wk_X12_triedSum_18 g0
  refine wb_X12_triedSum_0 ?_
  rw [lN_lI 0]
  exact wk_X12_triedSum_4 (lp m 0 (by omega))
theorem sp_goesOn (s : mS c n K P B h) {p : Nat} (z : mSets c n K P B p h) {tr : Nat → Nat} (ht : mTr c n K P B p tr h) (hb : ∀ t, t < v_sM c n K P B p → tr t < B (v_sJ c n K P B p t)) : ∃ h', XX true 1 220 0 [.ref 153, ax_junk] [] (h) (some (.int (b2i ((v_nxt (fun t => B (v_sJ c n K P B p t)) (v_sM c n K P B p) tr).2 = true))), h') ∧ fr [(164, none)] h h' ∧ mTr c n K P B p (v_nxt (fun t => B (v_sJ c n K P B p t)) (v_sM c n K P B p) tr).1 h' := by
  have h6 := s.n6
  have m8 := v_sM_le s.1 p
  have lp : ∀ m, m ≤ v_sM c n K P B p → ∀ tr h1, fr [(164, none)] h h1 → mTr c n K P B p tr h1 → (∀ t, t < v_sM c n K P B p → tr t < B (v_sJ c n K P B p t)) → ∃ h', XX true 1 220 7 [.ref 153, .int (nI m - nI 1)] [] (h1) ((some (.int (b2i ((v_nxt (fun t => B (v_sJ c n K P B p t)) m tr).2 = true))), h')) ∧ fr [(164, none)] h h' ∧ mTr c n K P B p (v_nxt (fun t => B (v_sJ c n K P B p t)) m tr).1 h' := by
    intro m
    induction m with
    | zero =>
      intro _ tr h1 f t hv
      refine ⟨h1, ?_, f, t⟩
      have neg : nI 0 - nI 1 < nI 0 := by decide
      refine wb_X12_goesOn_7 ?_
      rw [if_pos neg]
      refine wb_X12_goesOn_46 ?_
      rw [if_pos neg]
      refine wb_X12_goesOn_60 ?_
      rw [if_pos neg]
      rfl
    | succ m ih =>
      intro hm tr h1 f t hv
      have z1 := z.fr f (fun _ => rfl) (fun _ => rfl) rfl
      have s1 : mS c n K P B h1 := s.fr f rfl
      have si := v_set_is s.1 (p := p) (t := m) (by omega)
      have b3 := v_setB s.1 (p := p) (t := m) (by omega)
      have tm := hv m (by omega)
      have eM : nI (m + 1) - nI 1 = nI m := nI_subI (a := m + 1) (b := 1) (by omega)
      rw [eM]
      unfold v_nxt
      by_cases q : tr m + 1 < B (v_sJ c n K P B p m)
      · rw [if_pos q]
        refine ⟨ax_wr h1 164 m (.int (nI (tr m + 1))), ?_, f.wr' (by simp [inS]), fun a ha => ?_⟩
        · refine wb_X12_goesOn_7 ?_
          rw [if_neg (nI_n0 (by omega)), ix_nI (by omega), (z1.2 m (by omega)).1, ix_nI (by omega), t m (by omega), s1.BB si.1, show nI 1 = nI (0 + 1) by rfl, nI_subI (by omega)]
          refine ⟨in_nI (by omega) (by decide), in_nI (by omega) (by decide), in_nI (by omega) (by decide), ?_⟩
          rw [if_neg (fun u => by have := (nI_eq (by omega) (by omega)).mp u; omega)]
          refine wb_X12_goesOn_46 ?_
          rw [if_neg (nI_n0 (by omega)), ix_nI (by omega), t m (by omega), nI_s]
          refine ⟨in_nI (by omega) (by decide), in_nI (by omega) (by decide), ?_⟩
          refine wb_X12_goesOn_60 ?_
          rw [if_neg (nI_n0 (by omega))]
          rfl
        · show hI (ax_wr h1 164 m (.int (nI (tr m + 1)))) 164 a = nI (updN tr m (tr m + 1) a)
          by_cases e : a = m
          · rw [e, wr_I, updN_s]
          · rw [wr_Ij e, updN_o e]
            exact t a ha
      · rw [if_neg q]
        obtain ⟨h', r, f', t'⟩ := ih (by omega) (updN tr m 0) (ax_wr h1 164 m (.int (nI 0))) (f.wr' (by simp [inS])) (fun a ha => by
          by_cases e : a = m
          · rw [e, wr_I, updN_s]
          · rw [wr_Ij e, updN_o e]
            exact t a ha) (fun a ha => by
          by_cases e : a = m
          · rw [e, updN_s]; omega
          · rw [updN_o e]
            exact hv a ha)
        refine ⟨h', ?_, f', t'⟩
        refine wb_X12_goesOn_7 ?_
        rw [if_neg (nI_n0 (by omega)), ix_nI (by omega), (z1.2 m (by omega)).1, ix_nI (by omega), t m (by omega), s1.BB si.1, show nI 1 = nI (0 + 1) by rfl, nI_subI (by omega)]
        refine ⟨in_nI (by omega) (by decide), in_nI (by omega) (by decide), in_nI (by omega) (by decide), ?_⟩
        rw [if_pos (congrArg nI (by omega)), nI_dec]
        exact ⟨in_nI (by omega) (by decide), r⟩
  obtain ⟨h', r, f, t⟩ := lp _ (Nat.le_refl _) tr h fr.rfl' ht hb
  refine ⟨h', ?_, f, t⟩
  refine wb_X12_goesOn_0 ?_
  rw [z.1]
  exact r
end S32
