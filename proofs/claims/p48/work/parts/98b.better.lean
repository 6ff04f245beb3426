/-! THE LAW: who can do better does so; plans told win no more than the reply -/
section S98b
variable {c n np nr : Nat} {K P B T C : Nat → Nat} {U : Nat → Nat → Nat} {V W : Nat → Int} {h h1 h2 h' : AH}
theorem lw_bet {k q : Nat} (s : lS c n K P B np T C nr U V W k h h1) (hq : q < 3) : ∃ h2 np' T' C', lS c n K P B np' T' C' nr U V W k h h2 ∧ ∀ R, XX true 18 112 919 [.ref 48, .ref 64, .ref 153, ax_junk, ax_junk, ax_junk, .int (nI (q + 1)), ax_junk, ax_junk, ax_junk, ax_junk, ax_junk, ax_junk, ax_junk, ax_junk] [] (h2) (R) → XX true 18 112 919 [.ref 48, .ref 64, .ref 153, ax_junk, ax_junk, ax_junk, .int (nI q), ax_junk, ax_junk, ax_junk, ax_junk, ax_junk, ax_junk, ax_junk, ax_junk] [] (h1) (R) := by
  have n6 := s.2.1.n6
  by_cases mu : muchP c n K P B q
  · obtain ⟨h2, x2, f2⟩ := lw_replyM s.2.2 hq (part := nI 1) (by decide) mu
    refine ⟨h2, np, T, C, s.cl f2, fun R x => ?_⟩
    refine wb_L_law_919 ?_
    rw [if_pos (nI_lt hq (by decide))]
    refine cl_L_law_929 rfl (by decide) (x2) ?_
    refine wb_L_law_932 ?_
    rw [if_pos (by decide)]
    refine wb_L_law_1021 ?_
    rw [nI_s]
    exact x
  · obtain ⟨D1, D2⟩ := lw_D s.2.2
    have rb := v_rep_le s.2.1.ok s.2.2.rr s.2.2.ww (v_chs np T C B) q
    obtain ⟨rx, ry, rg, rg1, ry1, ryD, erx, ery, rx1, rx2, r0, r1, rm0, rm1⟩ := frac_is rb.1 rb.2 D1 D2
    obtain ⟨ha, xa, fa⟩ := lw_reply s.2.2 hq (part := nI 1) (by decide) mu
    have sa := s.cl fa
    obtain ⟨hb, xb, fb⟩ := lw_reply sa.2.2 hq (part := nI 0) (by decide) mu
    have sb := sa.cl fb
    obtain ⟨hc, xc, fc⟩ := lw_reply sb.2.2 hq (part := nI 1) (by decide) mu
    have sc := sb.cl fc
    obtain ⟨hd, xd, fd, yes, no⟩ := lg_better sc.2.2 (nI q)
    rw [r1] at xa xc
    rw [r0] at xb
    have pre : ∀ R, XX true 18 112 966 [.ref 48, .ref 64, .ref 153, ax_junk, ax_junk, ax_junk, .int (nI q), .long (lI rx), ax_junk, .long (lN ry), ax_junk, ax_junk, ax_junk, ax_junk, ax_junk] [.int (a_better c n K P B (v_chs np T C B) U V W nr np T (nI q))] (hd) (R) → XX true 18 112 919 [.ref 48, .ref 64, .ref 153, ax_junk, ax_junk, ax_junk, .int (nI q), ax_junk, ax_junk, ax_junk, ax_junk, ax_junk, ax_junk, ax_junk, ax_junk] [] (h1) (R) := by
      intro R x
      refine wb_L_law_919 ?_
      rw [if_pos (nI_lt hq (by decide))]
      refine cl_L_law_929 rfl (by decide) (xa) ?_
      refine wb_L_law_932 ?_
      rw [if_neg (lw_nM (by omega))]
      refine cl_L_law_946 rfl (by decide) (xb) ?_
      refine wb_L_law_949 ?_
      refine cl_L_law_955 rfl (by decide) (xc) ?_
      refine wb_L_law_958 ?_
      refine cl_L_law_963 rfl (by decide) (xd) ?_
      exact x
    have ix' : ix (nI q) = q := ix_nI (by omega)
    have an : a_better c n K P B (v_chs np T C B) U V W nr np T (nI q) = (if np + cntN (v_new c n K P B np T q) (v_sM c n K P B q) ≤ 40 then nI (cntN (v_oth c n K P B (v_chs np T C B) (v_rep c n K P B (v_chs np T C B) U V W nr q).2 q) (v_sM c n K P B q)) else -nI 4) := by
      unfold a_better
      rw [if_pos (pl3 hq), ix', if_neg mu]
    rw [an] at pre
    by_cases z : np + cntN (v_new c n K P B np T q) (v_sM c n K P B q) ≤ 40
    · have ib : isBetter c n K P B np T (nI q) := ⟨pl3 hq, by rw [ix']; exact mu, by rw [ix']; exact z⟩
      have gd := yes ib
      rw [ix'] at gd
      have tk := tla_ok (T := T) (C := C) s.2.1.ok hq s.2.2.p4 (y := (v_rep c n K P B (v_chs np T C B) U V W nr q).2) (v_rep_tr s.2.1.ok (v_chs np T C B) q) z (v_sM c n K P B q) (Nat.le_refl _)
      rw [if_pos z] at pre
      generalize v_tla c n K P B q (v_rep c n K P B (v_chs np T C B) U V W nr q).2 (v_sM c n K P B q) (np, T, C) = X at *
      obtain ⟨-, -, -, t4, t5⟩ := tk
      have sd := sc.cl ⟨fd, gd⟩
      have ot : ∀ q' j v, q' < 3 → j < n → q' ≠ q → v_chs X.1 X.2.1 X.2.2 B q' j v = v_chs np T C B q' j v := fun q' j v h1 h2 h3 => t5 q' j v (by omega) (by omega) h3
      have mE : mA c n K P B (v_chs X.1 X.2.1 X.2.2 B) U V W nr q = rA c n K P B (v_chs np T C B) U V W nr q := rep_at' s.2.1.ok hq ot t4
      have rE : rA c n K P B (v_chs X.1 X.2.1 X.2.2 B) U V W nr q = rA c n K P B (v_chs np T C B) U V W nr q := congrArg Prod.fst (v_rep_cg s.2.1.ok ot)
      obtain ⟨he, xe, fe⟩ := lw_mean sd.2.2 hq (part := nI 0) (by decide)
      have se := sd.cl fe
      obtain ⟨hf, xf, ff⟩ := lw_mean se.2.2 hq (part := nI 1) (by decide)
      have sf := se.cl ff
      obtain ⟨hg, xg, fg⟩ := lw_reply sf.2.2 hq (part := nI 0) (by decide) mu
      have sg := sf.cl fg
      rw [mE, rm0] at xe
      rw [mE, rm1] at xf
      rw [rE, r0] at xg
      have cm := cntN_le (v_oth c n K P B (v_chs np T C B) (v_rep c n K P B (v_chs np T C B) U V W nr q).2 q) (v_sM c n K P B q)
      have m8 := v_sM_le s.2.1.ok q
      refine ⟨hg, _, _, _, sg, fun R x => pre R ?_⟩
      have n4 : ∀ m, m < 2 ^ 31 → ¬ nI m = -nI 4 := fun m hm y => by
        have e := congrArg Int32.toInt y
        rw [nI_toInt hm, show (-nI 4).toInt = -4 by decide] at e
        omega
      refine wb_L_law_966 ?_
      rw [if_neg (n4 _ (by omega)), if_neg (nI_n0 (by omega))]
      refine cl_L_law_984 rfl (by decide) (xe) ?_
      refine wb_L_law_987 ?_
      rw [if_pos ((lg_eq0 _ _).mpr rfl)]
      refine cl_L_law_997 rfl (by decide) (xf) ?_
      refine wb_L_law_1000 ?_
      rw [if_pos ((lg_eq0 _ _).mpr rfl)]
      refine cl_L_law_1010 rfl (by decide) (xg) ?_
      refine wb_L_law_1013 ?_
      rw [if_pos ((lg_eq0 _ _).mpr rfl)]
      refine wb_L_law_1021 ?_
      rw [nI_s]
      exact x
    · have ib : ¬ isBetter c n K P B np T (nI q) := fun y => z (by have := y.2.2; rw [ix'] at this; exact this)
      rw [if_neg z] at pre
      refine ⟨hd, np, T, C, sc.cl ⟨fd, no ib⟩, fun R x => pre R ?_⟩
      refine wb_L_law_966 ?_
      rw [if_pos rfl]
      refine wb_L_law_1021 ?_
      rw [nI_s]
      exact x
end S98b
