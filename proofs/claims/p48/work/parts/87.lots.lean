/-! THE LAW's OWN GAME: plans told, by lot -/
theorem rd_167 (h : AH) (j : Nat) : ax_rd true h 167 j = h.1 167 j := rfl
theorem wok_167 (j : Nat) : ax_wok true 167 j = true := rfl
/-- what is told: rows of player, stage, view and choice -/
def oP (np : Nat) (T : Nat → Nat) (h : AH) : Prop := np ≤ 40 ∧ hI h 153 9 = nI np ∧ ∀ k, k < np → ∃ r p j v, hR h 167 k = rf r ∧ yA h r 4 ∧ T k = v_key p j v ∧ p < 4 ∧ j < 8 ∧ v < 524288 ∧ hI h r 0 = nI p ∧ hI h r 1 = nI j ∧ hI h r 2 = nI v
/-- told rows and their count alone -/
abbrev Xt (h : AH) (a : Nat) : Prop := a = 153 ∨ a = 167 ∨ (168 ≤ a ∧ h.2.1 a = 108)
theorem v_key_eq {p j v p' j' v' : Nat} (hp : p < 4) (hp' : p' < 4) (hj : j < 8) (hj' : j' < 8) : v_key p' j' v' = v_key p j v ↔ p' = p ∧ j' = j ∧ v' = v := by
  show v' * 32 + j' * 4 + p' = v * 32 + j * 4 + p ↔ _
  omega
section S87
variable {c n : Nat} {K P B : Nat → Nat} {h h' : AH}
theorem oP.y {np k : Nat} {T : Nat → Nat} {X : Nat → Prop} (s : oP np T h) (al : 168 ≤ h.2.2.1) (f : fy k X h h') (q : ∀ a, X a → a ≠ 153 ∧ a ≠ 167 ∧ h.2.1 a ≠ 108) : oP np T h' := by
  refine ⟨s.1, (f.I (by omega) (fun z => (q _ z).1 rfl)).trans s.2.1, fun k hk => ?_⟩
  obtain ⟨r, p, j, v, z1, z2, z3, z4, z5, z6, z7, z8, z9⟩ := s.2.2 k hk
  have nX : ¬ X r := fun z => (q _ z).2.2 z2.2.2
  exact ⟨r, p, j, v, (f.R (by omega) (fun z => (q _ z).2.1 rfl)).trans z1, z2.y f, z3, z4, z5, z6, (f.I z2.2.1 nX).trans z7, (f.I z2.2.1 nX).trans z8, (f.I z2.2.1 nX).trans z9⟩
theorem oP.T {np : Nat} {T T' : Nat → Nat} (s : oP np T h) (q : ∀ k, k < np → T' k = T k) : oP np T' h := ⟨s.1, s.2.1, fun k hk => by
  obtain ⟨r, p, j, v, z1, z2, z3, z4⟩ := s.2.2 k hk
  exact ⟨r, p, j, v, z1, z2, (q k hk).trans z3, z4⟩⟩
theorem so_tell (s : oS c n K P B h) {np : Nat} {T : Nat → Nat} (t : oP np T h) {p j v y : Nat} (hp : p < 3) (hj : j < 6) (hv : v < 524288) : ∃ h', XX true 1 109 0 [.ref 153, .int (nI p), .int (nI j), .int (nI v), .int (nI y), ax_junk] [] (h) (some (.int (b2i (v_pat np T p j v < 40))), h') ∧ fy 5 (Xt h) h h' ∧ oS c n K P B h' ∧ (v_pat np T p j v < 40 → oP (v_tn np T p j v) (updN T (v_pat np T p j v) (v_key p j v)) h') ∧ (¬ v_pat np T p j v < 40 → oP np T h') := by
  have al := s.al
  have np4 := t.1
  have le : v_pat np T p j v ≤ 0 + np := (v_at_le (fun k => decide (T k = v_key p j v)) np 0).2
  have lp : ∀ m e, e + m = v_pat np T p j v → ∀ R, XX true 1 109 3 [.ref 153, .int (nI p), .int (nI j), .int (nI v), .int (nI y), .int (nI (v_pat np T p j v))] [] (h) (R) → XX true 1 109 3 [.ref 153, .int (nI p), .int (nI j), .int (nI v), .int (nI y), .int (nI e)] [] (h) (R) := by
    intro m
    induction m with
    | zero =>
      intro e he R x
      obtain rfl : e = v_pat np T p j v := he
      exact x
    | succ m ih =>
      intro e he R x
      have no := v_at_not (fun k => decide (T k = v_key p j v)) np 0 e (Nat.zero_le _) (show e < v_pat np T p j v by omega)
      have no' : T e ≠ v_key p j v := by simpa using no
      obtain ⟨r, p', j', v', z1, z2, z3, z4, z5, z6, z7, z8, z9⟩ := t.2.2 e (by omega)
      rw [z3] at no'
      have nk : ¬ (p' = p ∧ j' = j ∧ v' = v) := fun z => no' ((v_key_eq (by omega) z4 (by omega) z5).mpr z)
      have nx : XX true 1 109 64 [.ref 153, .int (nI p), .int (nI j), .int (nI v), .int (nI y), .int (nI e)] [] (h) (R) := by
        refine wb_X12_tell_64 ?_
        rw [nI_s]
        exact ih (e + 1) (by omega) R x
      have g0 : gI h r 0 = nI p' := (z2.g _).trans z7
      have g1 : gI h r 1 = nI j' := (z2.g _).trans z8
      have g2 : gI h r 2 = nI v' := (z2.g _).trans z9
      have r1 : toR (ax_rd true h 167 e) = rf r := z1
      refine wb_X12_tell_3 ?_
      rw [t.2.1, if_pos (nI_lt (by omega) (by omega)), ix_nI (by omega), show ix (nI 0) = 0 from rfl, show ix (nI 1) = 1 from rfl, show ix (nI 2) = 2 from rfl]
      refine ⟨in_nI (by omega) (by decide), r, r1, 4, z2.d, by decide, ?_⟩
      rw [g0]
      by_cases q0 : p' = p
      · rw [if_pos (by rw [q0])]
        refine ⟨in_nI (by omega) (by decide), r, r1, 4, z2.d, by decide, ?_⟩
        rw [g1]
        by_cases q1 : j' = j
        · rw [if_pos (by rw [q1])]
          refine ⟨in_nI (by omega) (by decide), r, r1, 4, z2.d, by decide, ?_⟩
          rw [g2, if_neg (fun y => nk ⟨q0, q1, (nI_eq (by omega) (by omega)).mp y⟩)]
          exact nx
        · rw [if_neg (fun y => q1 ((nI_eq (by omega) (by omega)).mp y))]
          exact nx
      · rw [if_neg (fun y => q0 ((nI_eq (by omega) (by omega)).mp y))]
        exact nx
  have st : ∀ R, XX true 1 109 3 [.ref 153, .int (nI p), .int (nI j), .int (nI v), .int (nI y), .int (nI (v_pat np T p j v))] [] (h) (R) → XX true 1 109 0 [.ref 153, .int (nI p), .int (nI j), .int (nI v), .int (nI y), ax_junk] [] h R := by
    intro R x
    refine wb_X12_tell_0 ?_
    exact lp (v_pat np T p j v) 0 (Nat.zero_add _) R x
  obtain ⟨k, hk⟩ : ∃ k, v_pat np T p j v = k := ⟨_, rfl⟩
  rw [hk] at st le
  by_cases q : k < np
  · -- told before
    have is := v_at_is (fun k => decide (T k = v_key p j v)) np 0 (by show v_pat np T p j v < _; rw [hk]; omega)
    have is' : T k = v_key p j v := by
      have : T (v_pat np T p j v) = v_key p j v := by simpa using is
      rw [hk] at this
      exact this
    obtain ⟨r, p', j', v', z1, z2, z3, z4, z5, z6, z7, z8, z9⟩ := t.2.2 k q
    rw [is'] at z3
    obtain ⟨e1, e2, e3⟩ := (v_key_eq (v := v') z4 (by omega) z5 (by omega)).mp z3
    have g0 : gI h r 0 = nI p' := (z2.g _).trans z7
    have g1 : gI h r 1 = nI j' := (z2.g _).trans z8
    have g2 : gI h r 2 = nI v' := (z2.g _).trans z9
    have r1 : toR (ax_rd true h 167 k) = rf r := z1
    have tk : v_pat np T p j v < 40 := by omega
    have fw : fy 0 (Xt h) h (ax_wr h r 3 (.int (nI y))) := (fy.rf _ h).wr (Or.inl (Or.inr (Or.inr ⟨z2.1, z2.2.2⟩)))
    have z21 := z2.1
    have P0 : oP np T (ax_wr h r 3 (.int (nI y))) := by
      refine ⟨t.1, (wr_Ia (by omega)).trans t.2.1, fun k hk => ?_⟩
      obtain ⟨r', p, j, v, y1, y2, y3, y4, y5, y6, y7, y8, y9⟩ := t.2.2 k hk
      exact ⟨r', p, j, v, (wr_Ra (by omega)).trans y1, y2.wr _ _ _, y3, y4, y5, y6, (wr_Ij (by decide)).trans y7, (wr_Ij (by decide)).trans y8, (wr_Ij (by decide)).trans y9⟩
    refine ⟨ax_wr h r 3 (.int (nI y)), st _ ?_, fw.mono (fun _ z => z) (by decide), ?_, fun _ => ?_, fun z => absurd tk z⟩
    · refine wb_X12_tell_3 ?_
      rw [t.2.1, if_pos (nI_lt (by omega) (by omega)), ix_nI (by omega), show ix (nI 0) = 0 from rfl, show ix (nI 1) = 1 from rfl, show ix (nI 2) = 2 from rfl, show ix (nI 3) = 3 from rfl]
      refine ⟨in_nI (by omega) (by decide), r, r1, 4, z2.d, by decide, ?_⟩
      rw [g0, if_pos (by rw [e1])]
      refine ⟨in_nI (by omega) (by decide), r, r1, 4, z2.d, by decide, ?_⟩
      rw [g1, if_pos (by rw [e2])]
      refine ⟨in_nI (by omega) (by decide), r, r1, 4, z2.d, by decide, ?_⟩
      rw [g2, if_pos (by rw [e3])]
      refine ⟨in_nI (by omega) (by decide), r, r1, 4, z2.d, by decide, z2.w _, ?_⟩
      rw [b2i_t tk]
    · exact s.y ((fy.rf (fun a => a = r) h).wr (Or.inl rfl)) (fun a z => by omega)
    · rw [show v_tn np T p j v = np from if_neg (by rw [hk]; omega)]
      rw [hk]
      refine P0.T (fun i _ => ?_)
      by_cases z : i = k
      · rw [z, updN_s, is']
      · exact updN_o z
  · have kn : k = np := by omega
    by_cases f4 : np = 40
    · have nt : ¬ v_pat np T p j v < 40 := by omega
      refine ⟨h, st _ ?_, (fy.rf _ h).mono (fun _ z => z) (by decide), s, fun z => absurd z nt, fun _ => t⟩
      refine wb_X12_tell_3 ?_
      rw [t.2.1, if_neg (nI_nlt (by omega) (by omega)), if_pos (by rw [f4]), b2i_f nt]
    · have tk : v_pat np T p j v < 40 := by omega
      have yN : yA (mkI h 4) h.2.2.1 4 := yA.new al _
      let h4 := ax_wr (ax_wr (ax_wr (ax_wr (mkI h 4) h.2.2.1 0 (.int (nI p))) h.2.2.1 1 (.int (nI j))) h.2.2.1 2 (.int (nI v))) h.2.2.1 3 (.int (nI y))
      have f4' : fy 5 (Xt h) h h4 := ((((((fy.rf (Xt h) h).mk).wr (Or.inr (Nat.le_refl _))).wr (Or.inr (Nat.le_refl _))).wr (Or.inr (Nat.le_refl _))).wr (Or.inr (Nat.le_refl _))).mono (fun _ z => z) (by decide)
      have f4n : fy 5 (fun _ => False) h h4 := ((((((fy.rf (fun _ => False) h).mk).wr (Or.inr (Nat.le_refl _))).wr (Or.inr (Nat.le_refl _))).wr (Or.inr (Nat.le_refl _))).wr (Or.inr (Nat.le_refl _))).mono (fun _ z => z) (by decide)
      have s4 : oS c n K P B h4 := s.y f4n (fun _ z => z.elim)
      have t4 : oP np T h4 := t.y al f4n (fun _ z => z.elim)
      have yN4 : yA h4 h.2.2.1 4 := (((yN.wr _ _ _).wr _ _ _).wr _ _ _).wr _ _ _
      have n9 : hI h4 153 9 = nI np := t4.2.1
      let h5 := ax_wr h4 153 9 (.int (nI (np + 1)))
      let h6 := ax_wr h5 167 np (rf h.2.2.1)
      have c0 : hI h4 h.2.2.1 0 = nI p := (wr_Ij (by decide)).trans ((wr_Ij (by decide)).trans ((wr_Ij (by decide)).trans (wr_I _ _ _ _)))
      have c1 : hI h4 h.2.2.1 1 = nI j := (wr_Ij (by decide)).trans ((wr_Ij (by decide)).trans (wr_I _ _ _ _))
      have c2 : hI h4 h.2.2.1 2 = nI v := (wr_Ij (by decide)).trans (wr_I _ _ _ _)
      refine ⟨h6, st _ ?_, ((f4'.wr (Or.inl (Or.inl rfl))).wr (Or.inl (Or.inr (Or.inl rfl)))), ?_, fun _ => ?_, fun z => absurd tk z⟩
      · refine wb_X12_tell_3 ?_
        rw [t.2.1, if_neg (nI_nlt (by omega) (by omega)), if_neg (fun y => f4 ((nI_eq (by omega) (by omega)).mp y)), show ix (nI 0) = 0 from rfl, show ix (nI 1) = 1 from rfl, show ix (nI 2) = 2 from rfl, show ix (nI 3) = 3 from rfl, show ix (nI 4) = 4 from rfl]
        refine ⟨⟨al, by decide, by decide⟩, 4, yN.d, by decide, yN.w _, 4, (yN.wr _ _ _).d, by decide, yN.w _, 4, ((yN.wr _ _ _).wr _ _ _).d, by decide, yN.w _, 4, (((yN.wr _ _ _).wr _ _ _).wr _ _ _).d, by decide, yN.w _, ?_⟩
        show ax_in (hI h4 153 9) 40 = true ∧ dC (ax_wr h4 153 9 (.int (hI h4 153 9 + nI 1))) h.2.2.1 ∧ _ = (_, ax_wr (ax_wr h4 153 9 (.int (hI h4 153 9 + nI 1))) 167 (ix (hI h4 153 9)) (rf h.2.2.1))
        rw [n9, nI_s, ix_nI (by omega), b2i_t tk]
        exact ⟨in_nI (by omega) (by decide), (yN4.wr _ _ _).c, rfl⟩
      · refine ⟨s.ok, Nat.le_trans al (Nat.le_succ _), ?_, ?_, fun i hi => ⟨?_, ?_, ?_⟩⟩
        · exact (wr_Ia (by decide)).trans ((wr_Ij (by decide)).trans s4.mm)
        · exact (wr_Ia (by decide)).trans ((wr_Ij (by decide)).trans s4.nn)
        · exact (wr_Ia (by decide)).trans ((wr_Ia (by decide)).trans (s4.KK hi))
        · exact (wr_Ia (by decide)).trans ((wr_Ia (by decide)).trans (s4.PP hi))
        · exact (wr_Ia (by decide)).trans ((wr_Ia (by decide)).trans (s4.BB hi))
      · rw [show v_tn np T p j v = np + 1 from if_pos (by rw [hk]; exact kn), hk, kn]
        refine ⟨by omega, (wr_Ia (by decide)).trans (wr_I _ _ _ _), fun i hi => ?_⟩
        by_cases z : i = np
        · refine ⟨h.2.2.1, p, j, v, ?_, yN4, ?_, by omega, by omega, hv, ?_, ?_, ?_⟩
          · rw [z]; exact (wr_R _ _ _ _).trans (toR_rf _)
          · rw [z, updN_s]
          · exact (wr_Ia (by omega)).trans ((wr_Ia (by omega)).trans c0)
          · exact (wr_Ia (by omega)).trans ((wr_Ia (by omega)).trans c1)
          · exact (wr_Ia (by omega)).trans ((wr_Ia (by omega)).trans c2)
        · obtain ⟨r, p', j', v', z1, z2, z3, z4, z5, z6, z7, z8, z9⟩ := t4.2.2 i (by omega)
          have z21 := z2.1
          refine ⟨r, p', j', v', ?_, z2, ?_, z4, z5, z6, ?_, ?_, ?_⟩
          · exact (wr_Rj z).trans ((wr_Ra (by decide)).trans z1)
          · rw [updN_o (by omega)]; exact z3
          · exact (wr_Ia (by omega)).trans ((wr_Ia (by omega)).trans z7)
          · exact (wr_Ia (by omega)).trans ((wr_Ia (by omega)).trans z8)
          · exact (wr_Ia (by omega)).trans ((wr_Ia (by omega)).trans z9)
end S87
